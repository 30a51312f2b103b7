abbrev RSw (cI : ClassId) (cZ : ClassId) (b0 : Nat) (bR : Nat) (bI : Nat) (bC : Nat) (bY : Nat) (bZ : Nat) (bF : Nat) (bL : Nat) (bN : Nat) (bX : Nat) (bT : Nat) (mcd : Int32) (mwd : Int32) (men : Int32) (mR : Nat → Int32) (mI : Nat → Int32) (mC : Nat → Int32) (mY : Nat → Int32) (mZ : Nat → Int32) (mF : Nat → Int32) (mmd : Int32) (mhi : Int32) (mL : Nat → Int32) (mN : Nat → Int32) (mfr : Int32) (mX : Nat → Int32) (mT : Nat → Int32) (mct : Int32) (mtk : Int32) : va_W := [(b0, .inr (2, [.int mcd, .int mwd, .int men, .ref bR, .ref bI, .ref bC, .ref bY, .ref bZ, .ref bF, .int mmd, .int mhi, .ref bL, .ref bN, .int mfr, .ref bX, .ref bT, .int mct, .int mtk])), (bR, .inl (cI, 32, .inl mR)), (bI, .inl (cI, 8192, .inl mI)), (bC, .inl (cI, 8192, .inl mC)), (bY, .inl (cZ, 8192, .inl mY)), (bZ, .inl (cI, 8192, .inl mZ)), (bF, .inl (cI, 8192, .inl mF)), (bL, .inl (cI, 65536, .inl mL)), (bN, .inl (cI, 65536, .inl mN)), (bX, .inl (cZ, 8192, .inl mX)), (bT, .inl (cI, 8192, .inl mT))]
def wqR_isRegister (a1 : Int32) (post : Int32 → Prop) : Prop :=
  (a1 < 0 → (post (0 : Int32))) ∧ (¬ (a1 < 0) → (((32 : Int32) ≤ a1 → (post (0 : Int32))) ∧ (¬ ((32 : Int32) ≤ a1) → (post (1 : Int32)))))
set_option maxHeartbeats 4000000 in
set_option maxRecDepth 100000 in
theorem mR_isRegister (l : Launch) (a1 : Int32) (post : Int32 → Prop) (h : wqR_isRegister a1 post) : Met l y_R_isRegister ws_R_isRegister ({ frames := 0, cells := 0, slots := 0, locals := 0 }) (fun v _ => v = ([.int a1] : List Value).toArray) (rq_i post) 0 0 (fun _ => False) := by
  refine Met.ofW (cc := c_R_isRegister) (maxL := 1) (ret := (some .boolean)) (by decide) rfl ?_
  intro p e s m args below meth c s₁ B hml hv
  subst hv
  have hx := B.exec
  have hb := B.bytes
  have hr9 := B.returns
  have hts := atoms_spec (ws := ws_R_isRegister) B.pre
  have hw : ∀ w ∈ WB_, w.before _ s = true := fun w h => hts w (List.mem_cons_of_mem _ h)
  have hown : s.vm.findClass R_R = some m.cls := findClass_of_methodNamed B.named
  have hlocks := B.notSynchronized
  have hl := lv_entry ([.int a1]) (n := 1) (Nat.le_of_ble_eq_true rfl)
  rw [lg_entry_eq]
  generalize (lg_sl ([.int a1]) ++ List.replicate (1 - (lg_sl ([.int a1])).length) Slot.unset).toArray = ls at hl ⊢
  have hl : lv_has ls 1 [(0, .int a1)] := hl
  unfold wqR_isRegister at h
  refine lv_iload_n hx hb d_R_isRegister_0 rfl (lv_at hl 0 rfl) ?_
  refine lv_if_lt (tgt := 14) hx hb d_R_isRegister_1 (by decide) (fun c_1 => ?_) (fun c_1 => ?_)
  · have h := h.1 c_1
    refine lv_iconst (v := (0 : Int32)) hx hb d_R_isRegister_14 (by decide) ?_
    exact W.zret (v := (0 : Int32)) (ty := .boolean) hx hb hr9 rfl (fun t ht hW => ⟨_, rfl, h, ht⟩) (fun _ h9 => nomatch h9) d_R_isRegister_15
  · have h := h.2 c_1
    refine lv_iload_n hx hb d_R_isRegister_4 rfl (lv_at hl 0 rfl) ?_
    refine lv_bipush (v := (32 : Int32)) hx hb d_R_isRegister_5 (by decide) ?_
    refine lv_icmp_ge (tgt := 14) hx hb d_R_isRegister_7 (by decide) (fun c_7 => ?_) (fun c_7 => ?_)
    · have h := h.1 c_7
      refine lv_iconst (v := (0 : Int32)) hx hb d_R_isRegister_14 (by decide) ?_
      exact W.zret (v := (0 : Int32)) (ty := .boolean) hx hb hr9 rfl (fun t ht hW => ⟨_, rfl, h, ht⟩) (fun _ h9 => nomatch h9) d_R_isRegister_15
    · have h := h.2 c_7
      refine lv_iconst (v := (1 : Int32)) hx hb d_R_isRegister_10 (by decide) ?_
      refine lv_goto (tgt := 15) hx hb d_R_isRegister_11 (by decide) ?_
      exact W.zret (v := (1 : Int32)) (ty := .boolean) hx hb hr9 rfl (fun t ht hW => ⟨_, rfl, h, ht⟩) (fun _ h9 => nomatch h9) d_R_isRegister_15
def wqR_isObject (a1 : Int32) (post : Int32 → Prop) : Prop :=
  (a1 = 0 → (post (0 : Int32))) ∧ (¬ (a1 = 0) → (((a1 &&& (1 : Int32)) = 0 → (post (1 : Int32))) ∧ (¬ ((a1 &&& (1 : Int32)) = 0) → (post (0 : Int32)))))
set_option maxHeartbeats 4000000 in
set_option maxRecDepth 100000 in
theorem mR_isObject (l : Launch) (a1 : Int32) (post : Int32 → Prop) (h : wqR_isObject a1 post) : Met l y_R_isObject ws_R_isObject ({ frames := 0, cells := 0, slots := 0, locals := 0 }) (fun v _ => v = ([.int a1] : List Value).toArray) (rq_i post) 0 0 (fun _ => False) := by
  refine Met.ofW (cc := c_R_isObject) (maxL := 1) (ret := (some .boolean)) (by decide) rfl ?_
  intro p e s m args below meth c s₁ B hml hv
  subst hv
  have hx := B.exec
  have hb := B.bytes
  have hr9 := B.returns
  have hts := atoms_spec (ws := ws_R_isObject) B.pre
  have hw : ∀ w ∈ WB_, w.before _ s = true := fun w h => hts w (List.mem_cons_of_mem _ h)
  have hown : s.vm.findClass R_R = some m.cls := findClass_of_methodNamed B.named
  have hlocks := B.notSynchronized
  have hl := lv_entry ([.int a1]) (n := 1) (Nat.le_of_ble_eq_true rfl)
  rw [lg_entry_eq]
  generalize (lg_sl ([.int a1]) ++ List.replicate (1 - (lg_sl ([.int a1])).length) Slot.unset).toArray = ls at hl ⊢
  have hl : lv_has ls 1 [(0, .int a1)] := hl
  unfold wqR_isObject at h
  refine lv_iload_n hx hb d_R_isObject_0 rfl (lv_at hl 0 rfl) ?_
  refine lv_if_eq (tgt := 14) hx hb d_R_isObject_1 (by decide) (fun c_1 => ?_) (fun c_1 => ?_)
  · have h := h.1 c_1
    refine lv_iconst (v := (0 : Int32)) hx hb d_R_isObject_14 (by decide) ?_
    exact W.zret (v := (0 : Int32)) (ty := .boolean) hx hb hr9 rfl (fun t ht hW => ⟨_, rfl, h, ht⟩) (fun _ h9 => nomatch h9) d_R_isObject_15
  · have h := h.2 c_1
    refine lv_iload_n hx hb d_R_isObject_4 rfl (lv_at hl 0 rfl) ?_
    refine lv_iconst (v := (1 : Int32)) hx hb d_R_isObject_5 (by decide) ?_
    refine lv_iand hx hb d_R_isObject_6 ?_
    refine lv_if_ne (tgt := 14) hx hb d_R_isObject_7 (by decide) (fun c_7 => ?_) (fun c_7 => ?_)
    · have h := h.2 c_7
      refine lv_iconst (v := (0 : Int32)) hx hb d_R_isObject_14 (by decide) ?_
      exact W.zret (v := (0 : Int32)) (ty := .boolean) hx hb hr9 rfl (fun t ht hW => ⟨_, rfl, h, ht⟩) (fun _ h9 => nomatch h9) d_R_isObject_15
    · have h := h.1 c_7
      refine lv_iconst (v := (1 : Int32)) hx hb d_R_isObject_10 (by decide) ?_
      refine lv_goto (tgt := 15) hx hb d_R_isObject_11 (by decide) ?_
      exact W.zret (v := (1 : Int32)) (ty := .boolean) hx hb hr9 rfl (fun t ht hW => ⟨_, rfl, h, ht⟩) (fun _ h9 => nomatch h9) d_R_isObject_15
def wqR_placeOf (a1 : Int32) (post : Int32 → Prop) : Prop :=
  post ((a1 / (2 : Int32)) - (1 : Int32))
set_option maxHeartbeats 4000000 in
set_option maxRecDepth 100000 in
theorem mR_placeOf (l : Launch) (a1 : Int32) (post : Int32 → Prop) (h : wqR_placeOf a1 post) : Met l y_R_placeOf ws_R_placeOf ({ frames := 0, cells := 0, slots := 0, locals := 0 }) (fun v _ => v = ([.int a1] : List Value).toArray) (rq_i post) 0 0 (fun _ => False) := by
  refine Met.ofW (cc := c_R_placeOf) (maxL := 1) (ret := (some .int)) (by decide) rfl ?_
  intro p e s m args below meth c s₁ B hml hv
  subst hv
  have hx := B.exec
  have hb := B.bytes
  have hr9 := B.returns
  have hts := atoms_spec (ws := ws_R_placeOf) B.pre
  have hw : ∀ w ∈ WB_, w.before _ s = true := fun w h => hts w (List.mem_cons_of_mem _ h)
  have hown : s.vm.findClass R_R = some m.cls := findClass_of_methodNamed B.named
  have hlocks := B.notSynchronized
  have hl := lv_entry ([.int a1]) (n := 1) (Nat.le_of_ble_eq_true rfl)
  rw [lg_entry_eq]
  generalize (lg_sl ([.int a1]) ++ List.replicate (1 - (lg_sl ([.int a1])).length) Slot.unset).toArray = ls at hl ⊢
  have hl : lv_has ls 1 [(0, .int a1)] := hl
  unfold wqR_placeOf at h
  refine lv_iload_n hx hb d_R_placeOf_0 rfl (lv_at hl 0 rfl) ?_
  refine lv_iconst (v := (2 : Int32)) hx hb d_R_placeOf_1 (by decide) ?_
  refine lv_idiv hx hb d_R_placeOf_2 (by decide) ?_
  refine lv_iconst (v := (1 : Int32)) hx hb d_R_placeOf_3 (by decide) ?_
  refine lv_isub hx hb d_R_placeOf_4 ?_
  exact W.iret (v := (a1 / (2 : Int32)) - (1 : Int32)) hx hb hr9 (fun t ht hW => ⟨_, rfl, h, ht⟩) (fun _ h9 => nomatch h9) d_R_placeOf_5
def wqR_valueOf (a1 : Int32) (post : Int32 → Prop) : Prop :=
  post (((2 : Int32) * a1) + (2 : Int32))
set_option maxHeartbeats 4000000 in
set_option maxRecDepth 100000 in
theorem mR_valueOf (l : Launch) (a1 : Int32) (post : Int32 → Prop) (h : wqR_valueOf a1 post) : Met l y_R_valueOf ws_R_valueOf ({ frames := 0, cells := 0, slots := 0, locals := 0 }) (fun v _ => v = ([.int a1] : List Value).toArray) (rq_i post) 0 0 (fun _ => False) := by
  refine Met.ofW (cc := c_R_valueOf) (maxL := 1) (ret := (some .int)) (by decide) rfl ?_
  intro p e s m args below meth c s₁ B hml hv
  subst hv
  have hx := B.exec
  have hb := B.bytes
  have hr9 := B.returns
  have hts := atoms_spec (ws := ws_R_valueOf) B.pre
  have hw : ∀ w ∈ WB_, w.before _ s = true := fun w h => hts w (List.mem_cons_of_mem _ h)
  have hown : s.vm.findClass R_R = some m.cls := findClass_of_methodNamed B.named
  have hlocks := B.notSynchronized
  have hl := lv_entry ([.int a1]) (n := 1) (Nat.le_of_ble_eq_true rfl)
  rw [lg_entry_eq]
  generalize (lg_sl ([.int a1]) ++ List.replicate (1 - (lg_sl ([.int a1])).length) Slot.unset).toArray = ls at hl ⊢
  have hl : lv_has ls 1 [(0, .int a1)] := hl
  unfold wqR_valueOf at h
  refine lv_iconst (v := (2 : Int32)) hx hb d_R_valueOf_0 (by decide) ?_
  refine lv_iload_n hx hb d_R_valueOf_1 rfl (lv_at hl 0 rfl) ?_
  refine lv_imul hx hb d_R_valueOf_2 ?_
  refine lv_iconst (v := (2 : Int32)) hx hb d_R_valueOf_3 (by decide) ?_
  refine lv_iadd hx hb d_R_valueOf_4 ?_
  exact W.iret (v := ((2 : Int32) * a1) + (2 : Int32)) hx hb hr9 (fun t ht hW => ⟨_, rfl, h, ht⟩) (fun _ h9 => nomatch h9) d_R_valueOf_5
def wqR_cellsFor (a1 : Int32) (a2 : Int32) (post : Int32 → Prop) : Prop :=
  (a2 = 0 → (post a1)) ∧ (¬ (a2 = 0) → (post ((a1 + (3 : Int32)) / (4 : Int32))))
set_option maxHeartbeats 4000000 in
set_option maxRecDepth 100000 in
theorem mR_cellsFor (l : Launch) (a1 : Int32) (a2 : Int32) (post : Int32 → Prop) (h : wqR_cellsFor a1 a2 post) : Met l y_R_cellsFor ws_R_cellsFor ({ frames := 0, cells := 0, slots := 0, locals := 0 }) (fun v _ => v = ([.int a1, .int a2] : List Value).toArray) (rq_i post) 0 0 (fun _ => False) := by
  refine Met.ofW (cc := c_R_cellsFor) (maxL := 2) (ret := (some .int)) (by decide) rfl ?_
  intro p e s m args below meth c s₁ B hml hv
  subst hv
  have hx := B.exec
  have hb := B.bytes
  have hr9 := B.returns
  have hts := atoms_spec (ws := ws_R_cellsFor) B.pre
  have hw : ∀ w ∈ WB_, w.before _ s = true := fun w h => hts w (List.mem_cons_of_mem _ h)
  have hown : s.vm.findClass R_R = some m.cls := findClass_of_methodNamed B.named
  have hlocks := B.notSynchronized
  have hl := lv_entry ([.int a1, .int a2]) (n := 2) (Nat.le_of_ble_eq_true rfl)
  rw [lg_entry_eq]
  generalize (lg_sl ([.int a1, .int a2]) ++ List.replicate (2 - (lg_sl ([.int a1, .int a2])).length) Slot.unset).toArray = ls at hl ⊢
  have hl : lv_has ls 2 [(0, .int a1), (1, .int a2)] := hl
  unfold wqR_cellsFor at h
  refine lv_iload_n hx hb d_R_cellsFor_0 rfl (lv_at hl 1 rfl) ?_
  refine lv_if_eq (tgt := 12) hx hb d_R_cellsFor_1 (by decide) (fun c_1 => ?_) (fun c_1 => ?_)
  · have h := h.1 c_1
    refine lv_iload_n hx hb d_R_cellsFor_12 rfl (lv_at hl 0 rfl) ?_
    exact W.iret (v := a1) hx hb hr9 (fun t ht hW => ⟨_, rfl, h, ht⟩) (fun _ h9 => nomatch h9) d_R_cellsFor_13
  · have h := h.2 c_1
    refine lv_iload_n hx hb d_R_cellsFor_4 rfl (lv_at hl 0 rfl) ?_
    refine lv_iconst (v := (3 : Int32)) hx hb d_R_cellsFor_5 (by decide) ?_
    refine lv_iadd hx hb d_R_cellsFor_6 ?_
    refine lv_iconst (v := (4 : Int32)) hx hb d_R_cellsFor_7 (by decide) ?_
    refine lv_idiv hx hb d_R_cellsFor_8 (by decide) ?_
    refine lv_goto (tgt := 13) hx hb d_R_cellsFor_9 (by decide) ?_
    exact W.iret (v := (a1 + (3 : Int32)) / (4 : Int32)) hx hb hr9 (fun t ht hW => ⟨_, rfl, h, ht⟩) (fun _ h9 => nomatch h9) d_R_cellsFor_13
def wqR_thrown (mcd : Int32) (post : Int32 → Prop) : Prop :=
  post mcd
set_option maxHeartbeats 4000000 in
set_option maxRecDepth 100000 in
theorem mR_thrown (l : Launch) (dC : Nat → ClassId) (dI : Nat → Nat → Nat) (cI : ClassId) (cZ : ClassId) (b0 : Nat) (bR : Nat) (bI : Nat) (bC : Nat) (bY : Nat) (bZ : Nat) (bF : Nat) (bL : Nat) (bN : Nat) (bX : Nat) (bT : Nat) (mcd : Int32) (mwd : Int32) (men : Int32) (mR : Nat → Int32) (mI : Nat → Int32) (mC : Nat → Int32) (mY : Nat → Int32) (mZ : Nat → Int32) (mF : Nat → Int32) (mmd : Int32) (mhi : Int32) (mL : Nat → Int32) (mN : Nat → Int32) (mfr : Int32) (mX : Nat → Int32) (mT : Nat → Int32) (mct : Int32) (mtk : Int32) (post : Int32 → Prop) (h : wqR_thrown mcd post) : Met l y_R_thrown ws_R_thrown ({ frames := 0, cells := 0, slots := 0, locals := 0 }) (ro_P (dC, dI) vwCl (RSw cI cZ b0 bR bI bC bY bZ bF bL bN bX bT mcd mwd men mR mI mC mY mZ mF mmd mhi mL mN mfr mX mT mct mtk) [(cI, .int), (cZ, .boolean)] [.ref b0]) (rq_i post) 0 0 (fun _ => False) := by
  refine Met.ofW (cc := c_R_thrown) (maxL := 1) (ret := (some .int)) (by decide) rfl ?_
  intro p e s m args below meth c s₁ B hml hv
  obtain ⟨rfl, hP, hK⟩ := hv
  have hx := B.exec
  have hb := B.bytes
  have hr9 := B.returns
  have hts := atoms_spec (ws := ws_R_thrown) B.pre
  have hw : ∀ w ∈ WB_, w.before _ s = true := fun w h => hts w (List.mem_cons_of_mem _ h)
  have hown : s.vm.findClass R_R = some m.cls := findClass_of_methodNamed B.named
  have hlocks := B.notSynchronized
  have hl := lv_entry ([.ref b0]) (n := 1) (Nat.le_of_ble_eq_true rfl)
  rw [lg_entry_eq]
  generalize (lg_sl ([.ref b0]) ++ List.replicate (1 - (lg_sl ([.ref b0])).length) Slot.unset).toArray = ls at hl ⊢
  have hl : lv_has ls 1 [(0, .ref b0)] := hl
  unfold wqR_thrown at h
  refine lv_aload_n hx hb d_R_thrown_0 rfl (lv_at hl 0 rfl) ?_
  refine va_get (D := (dC, dI)) (ci := 2) (v := .int mcd) (C := R_R) (T := T_R) (N := 18) hx hb hw in_R hown hK hP 0 rfl rfl 0 (by decide) (hw _ wd_616) (fun _ h9 => h9) rfl d_R_thrown_1 ?_
  exact W.iret (v := mcd) hx hb hr9 (fun t ht hW => ⟨_, rfl, h, ht⟩) (fun _ h9 => nomatch h9) d_R_thrown_4
def wqR_has (mR : Nat → Int32) (a1 : Int32) (post : Int32 → Prop) : Prop :=
  wqR_isRegister a1 (fun r1 => (r1 = 0 → (post (0 : Int32))) ∧ (¬ (r1 = 0) → (vp_in a1 32 ∧ (wqR_isObject (mR a1.toNatClampNeg) (fun r13 => (r13 = 0 → (post (0 : Int32))) ∧ (¬ (r13 = 0) → (post (1 : Int32))))))))
set_option maxHeartbeats 4000000 in
set_option maxRecDepth 100000 in
theorem mR_has (l : Launch) (dC : Nat → ClassId) (dI : Nat → Nat → Nat) (cI : ClassId) (cZ : ClassId) (b0 : Nat) (bR : Nat) (bI : Nat) (bC : Nat) (bY : Nat) (bZ : Nat) (bF : Nat) (bL : Nat) (bN : Nat) (bX : Nat) (bT : Nat) (mcd : Int32) (mwd : Int32) (men : Int32) (mR : Nat → Int32) (mI : Nat → Int32) (mC : Nat → Int32) (mY : Nat → Int32) (mZ : Nat → Int32) (mF : Nat → Int32) (mmd : Int32) (mhi : Int32) (mL : Nat → Int32) (mN : Nat → Int32) (mfr : Int32) (mX : Nat → Int32) (mT : Nat → Int32) (mct : Int32) (mtk : Int32) (a1 : Int32) (post : Int32 → Prop) (h : wqR_has mR a1 post) : Met l y_R_has ws_R_has ({ frames := 1, cells := 0, slots := 0, locals := 20 }) (ro_P (dC, dI) vwCl (RSw cI cZ b0 bR bI bC bY bZ bF bL bN bX bT mcd mwd men mR mI mC mY mZ mF mmd mhi mL mN mfr mX mT mct mtk) [(cI, .int), (cZ, .boolean)] [.ref b0, .int a1]) (rq_i post) 0 0 (fun _ => False) := by
  refine Met.ofW (cc := c_R_has) (maxL := 2) (ret := (some .boolean)) (by decide) rfl ?_
  intro p e s m args below meth c s₁ B hml hv
  obtain ⟨rfl, hP, hK⟩ := hv
  have hx := B.exec
  have hb := B.bytes
  have hr9 := B.returns
  have hts := atoms_spec (ws := ws_R_has) B.pre
  have hw : ∀ w ∈ WB_, w.before _ s = true := fun w h => hts w (List.mem_cons_of_mem _ h)
  have hown : s.vm.findClass R_R = some m.cls := findClass_of_methodNamed B.named
  have hlocks := B.notSynchronized
  have hl := lv_entry ([.ref b0, .int a1]) (n := 2) (Nat.le_of_ble_eq_true rfl)
  rw [lg_entry_eq]
  generalize (lg_sl ([.ref b0, .int a1]) ++ List.replicate (2 - (lg_sl ([.ref b0, .int a1])).length) Slot.unset).toArray = ls at hl ⊢
  have hl : lv_has ls 2 [(0, .ref b0), (1, .int a1)] := hl
  unfold wqR_has at h
  refine lv_iload_n hx hb d_R_has_0 rfl (lv_at hl 1 rfl) ?_
  refine rq_calli (W.runS (As := [.int a1]) (rest := []) ⟨hx, hb, hml, hown, hw⟩ (mR_isRegister l a1 _ h) (va_cwS 1 hw g_R_52 rfl rfl rfl (by decide +kernel) ⟨Nat.le_of_ble_eq_true rfl, Nat.le_of_ble_eq_true rfl⟩) preEq rfl rfl hl.1 rfl (lv_room (Nat.le_of_ble_eq_true rfl)) d_R_has_1 ⟨Nat.le_of_ble_eq_true rfl, Nat.le_of_ble_eq_true rfl⟩) (fun r1 h => ?_)
  refine lv_if_eq (tgt := 23) hx hb d_R_has_4 (by decide) (fun c_4 => ?_) (fun c_4 => ?_)
  · have h := h.1 c_4
    refine lv_iconst (v := (0 : Int32)) hx hb d_R_has_23 (by decide) ?_
    exact W.zret (v := (0 : Int32)) (ty := .boolean) hx hb hr9 rfl (fun t ht hW => ⟨_, rfl, h, ht⟩) (fun _ h9 => nomatch h9) d_R_has_24
  · have h := h.2 c_4
    refine lv_aload_n hx hb d_R_has_7 rfl (lv_at hl 0 rfl) ?_
    refine va_get (D := (dC, dI)) (ci := 2) (v := .ref bR) (C := R_R) (T := T_R) (N := 18) hx hb hw in_R hown hK hP 0 rfl rfl 3 (by decide) (hw _ wd_619) (fun _ h9 => h9) rfl d_R_has_8 ?_
    refine lv_iload_n hx hb d_R_has_11 rfl (lv_at hl 1 rfl) ?_
    refine va_iald hx hb hK hP 1 0 rfl rfl h.1 d_R_has_12 ?_
    have h := h.2
    refine rq_calli (W.runS (As := [.int (mR a1.toNatClampNeg)]) (rest := []) ⟨hx, hb, hml, hown, hw⟩ (mR_isObject l (mR a1.toNatClampNeg) _ h) (va_cwS 1 hw g_R_56 rfl rfl rfl (by decide +kernel) ⟨Nat.le_of_ble_eq_true rfl, Nat.le_of_ble_eq_true rfl⟩) preEq rfl rfl hl.1 rfl (lv_room (Nat.le_of_ble_eq_true rfl)) d_R_has_13 ⟨Nat.le_of_ble_eq_true rfl, Nat.le_of_ble_eq_true rfl⟩) (fun r13 h => ?_)
    refine lv_if_eq (tgt := 23) hx hb d_R_has_16 (by decide) (fun c_16 => ?_) (fun c_16 => ?_)
    · have h := h.1 c_16
      refine lv_iconst (v := (0 : Int32)) hx hb d_R_has_23 (by decide) ?_
      exact W.zret (v := (0 : Int32)) (ty := .boolean) hx hb hr9 rfl (fun t ht hW => ⟨_, rfl, h, ht⟩) (fun _ h9 => nomatch h9) d_R_has_24
    · have h := h.2 c_16
      refine lv_iconst (v := (1 : Int32)) hx hb d_R_has_19 (by decide) ?_
      refine lv_goto (tgt := 24) hx hb d_R_has_20 (by decide) ?_
      exact W.zret (v := (1 : Int32)) (ty := .boolean) hx hb hr9 rfl (fun t ht hW => ⟨_, rfl, h, ht⟩) (fun _ h9 => nomatch h9) d_R_has_24
def wqR_hasSlots (mR : Nat → Int32) (mY : Nat → Int32) (a1 : Int32) (post : Int32 → Prop) : Prop :=
  wqR_has mR a1 (fun r2 => (r2 = 0 → (post (0 : Int32))) ∧ (¬ (r2 = 0) → (vp_in a1 32 ∧ (wqR_placeOf (mR a1.toNatClampNeg) (fun r18 => vp_in r18 8192 ∧ (((mY r18.toNatClampNeg) = 0 → (post (1 : Int32))) ∧ (¬ ((mY r18.toNatClampNeg) = 0) → (post (0 : Int32)))))))))
set_option maxHeartbeats 4000000 in
set_option maxRecDepth 100000 in
theorem mR_hasSlots (l : Launch) (dC : Nat → ClassId) (dI : Nat → Nat → Nat) (cI : ClassId) (cZ : ClassId) (b0 : Nat) (bR : Nat) (bI : Nat) (bC : Nat) (bY : Nat) (bZ : Nat) (bF : Nat) (bL : Nat) (bN : Nat) (bX : Nat) (bT : Nat) (mcd : Int32) (mwd : Int32) (men : Int32) (mR : Nat → Int32) (mI : Nat → Int32) (mC : Nat → Int32) (mY : Nat → Int32) (mZ : Nat → Int32) (mF : Nat → Int32) (mmd : Int32) (mhi : Int32) (mL : Nat → Int32) (mN : Nat → Int32) (mfr : Int32) (mX : Nat → Int32) (mT : Nat → Int32) (mct : Int32) (mtk : Int32) (a1 : Int32) (post : Int32 → Prop) (h : wqR_hasSlots mR mY a1 post) : Met l y_R_hasSlots ws_R_hasSlots ({ frames := 2, cells := 0, slots := 0, locals := 41 }) (ro_P (dC, dI) vwCl (RSw cI cZ b0 bR bI bC bY bZ bF bL bN bX bT mcd mwd men mR mI mC mY mZ mF mmd mhi mL mN mfr mX mT mct mtk) [(cI, .int), (cZ, .boolean)] [.ref b0, .int a1]) (rq_i post) 0 0 (fun _ => False) := by
  refine Met.ofW (cc := c_R_hasSlots) (maxL := 2) (ret := (some .boolean)) (by decide) rfl ?_
  intro p e s m args below meth c s₁ B hml hv
  obtain ⟨rfl, hP, hK⟩ := hv
  have hx := B.exec
  have hb := B.bytes
  have hr9 := B.returns
  have hts := atoms_spec (ws := ws_R_hasSlots) B.pre
  have hw : ∀ w ∈ WB_, w.before _ s = true := fun w h => hts w (List.mem_cons_of_mem _ h)
  have hown : s.vm.findClass R_R = some m.cls := findClass_of_methodNamed B.named
  have hlocks := B.notSynchronized
  have hl := lv_entry ([.ref b0, .int a1]) (n := 2) (Nat.le_of_ble_eq_true rfl)
  rw [lg_entry_eq]
  generalize (lg_sl ([.ref b0, .int a1]) ++ List.replicate (2 - (lg_sl ([.ref b0, .int a1])).length) Slot.unset).toArray = ls at hl ⊢
  have hl : lv_has ls 2 [(0, .ref b0), (1, .int a1)] := hl
  unfold wqR_hasSlots at h
  refine lv_aload_n hx hb d_R_hasSlots_0 rfl (lv_at hl 0 rfl) ?_
  refine lv_iload_n hx hb d_R_hasSlots_1 rfl (lv_at hl 1 rfl) ?_
  refine rq_calli (W.runV (As := [.int a1]) (rest := []) ⟨hx, hb, hml, hown, hw⟩ (mR_has l dC dI cI cZ b0 bR bI bC bY bZ bF bL bN bX bT mcd mwd men mR mI mC mY mZ mF mmd mhi mL mN mfr mX mT mct mtk a1 _ h) (cwV 1 hw g_R_59 rfl rfl rfl (by decide +kernel) ⟨Nat.le_of_ble_eq_true rfl, Nat.le_of_ble_eq_true rfl⟩) (ro_PV (ci := 2) (q0 := 0) hK hP rfl rfl) rfl rfl hl.1 rfl (lv_room (Nat.le_of_ble_eq_true rfl)) d_R_hasSlots_2 ⟨Nat.le_of_ble_eq_true rfl, Nat.le_of_ble_eq_true rfl⟩) (fun r2 h => ?_)
  refine lv_if_eq (tgt := 29) hx hb d_R_hasSlots_5 (by decide) (fun c_5 => ?_) (fun c_5 => ?_)
  · have h := h.1 c_5
    refine lv_iconst (v := (0 : Int32)) hx hb d_R_hasSlots_29 (by decide) ?_
    exact W.zret (v := (0 : Int32)) (ty := .boolean) hx hb hr9 rfl (fun t ht hW => ⟨_, rfl, h, ht⟩) (fun _ h9 => nomatch h9) d_R_hasSlots_30
  · have h := h.2 c_5
    refine lv_aload_n hx hb d_R_hasSlots_8 rfl (lv_at hl 0 rfl) ?_
    refine va_get (D := (dC, dI)) (ci := 2) (v := .ref bY) (C := R_R) (T := T_R) (N := 18) hx hb hw in_R hown hK hP 0 rfl rfl 6 (by decide) (hw _ wd_622) (fun _ h9 => h9) rfl d_R_hasSlots_9 ?_
    refine lv_aload_n hx hb d_R_hasSlots_12 rfl (lv_at hl 0 rfl) ?_
    refine va_get (D := (dC, dI)) (ci := 2) (v := .ref bR) (C := R_R) (T := T_R) (N := 18) hx hb hw in_R hown hK hP 0 rfl rfl 3 (by decide) (hw _ wd_619) (fun _ h9 => h9) rfl d_R_hasSlots_13 ?_
    refine lv_iload_n hx hb d_R_hasSlots_16 rfl (lv_at hl 1 rfl) ?_
    refine va_iald hx hb hK hP 1 0 rfl rfl h.1 d_R_hasSlots_17 ?_
    have h := h.2
    refine rq_calli (W.runS (As := [.int (mR a1.toNatClampNeg)]) (rest := [.ref bY]) ⟨hx, hb, hml, hown, hw⟩ (mR_placeOf l (mR a1.toNatClampNeg) _ h) (va_cwS 1 hw g_R_62 rfl rfl rfl (by decide +kernel) ⟨Nat.le_of_ble_eq_true rfl, Nat.le_of_ble_eq_true rfl⟩) preEq rfl rfl hl.1 rfl (lv_room (Nat.le_of_ble_eq_true rfl)) d_R_hasSlots_18 ⟨Nat.le_of_ble_eq_true rfl, Nat.le_of_ble_eq_true rfl⟩) (fun r18 h => ?_)
    refine va_zald hx hb hK hP 4 1 rfl rfl h.1 d_R_hasSlots_21 ?_
    have h := h.2
    refine lv_if_ne (tgt := 29) hx hb d_R_hasSlots_22 (by decide) (fun c_22 => ?_) (fun c_22 => ?_)
    · have h := h.2 c_22
      refine lv_iconst (v := (0 : Int32)) hx hb d_R_hasSlots_29 (by decide) ?_
      exact W.zret (v := (0 : Int32)) (ty := .boolean) hx hb hr9 rfl (fun t ht hW => ⟨_, rfl, h, ht⟩) (fun _ h9 => nomatch h9) d_R_hasSlots_30
    · have h := h.1 c_22
      refine lv_iconst (v := (1 : Int32)) hx hb d_R_hasSlots_25 (by decide) ?_
      refine lv_goto (tgt := 30) hx hb d_R_hasSlots_26 (by decide) ?_
      exact W.zret (v := (1 : Int32)) (ty := .boolean) hx hb hr9 rfl (fun t ht hW => ⟨_, rfl, h, ht⟩) (fun _ h9 => nomatch h9) d_R_hasSlots_30
def wqR_hasBytes (mR : Nat → Int32) (mY : Nat → Int32) (a1 : Int32) (post : Int32 → Prop) : Prop :=
  wqR_has mR a1 (fun r2 => (r2 = 0 → (post (0 : Int32))) ∧ (¬ (r2 = 0) → (vp_in a1 32 ∧ (wqR_placeOf (mR a1.toNatClampNeg) (fun r18 => vp_in r18 8192 ∧ (((mY r18.toNatClampNeg) = 0 → (post (0 : Int32))) ∧ (¬ ((mY r18.toNatClampNeg) = 0) → (post (1 : Int32)))))))))
set_option maxHeartbeats 4000000 in
set_option maxRecDepth 100000 in
theorem mR_hasBytes (l : Launch) (dC : Nat → ClassId) (dI : Nat → Nat → Nat) (cI : ClassId) (cZ : ClassId) (b0 : Nat) (bR : Nat) (bI : Nat) (bC : Nat) (bY : Nat) (bZ : Nat) (bF : Nat) (bL : Nat) (bN : Nat) (bX : Nat) (bT : Nat) (mcd : Int32) (mwd : Int32) (men : Int32) (mR : Nat → Int32) (mI : Nat → Int32) (mC : Nat → Int32) (mY : Nat → Int32) (mZ : Nat → Int32) (mF : Nat → Int32) (mmd : Int32) (mhi : Int32) (mL : Nat → Int32) (mN : Nat → Int32) (mfr : Int32) (mX : Nat → Int32) (mT : Nat → Int32) (mct : Int32) (mtk : Int32) (a1 : Int32) (post : Int32 → Prop) (h : wqR_hasBytes mR mY a1 post) : Met l y_R_hasBytes ws_R_hasBytes ({ frames := 2, cells := 0, slots := 0, locals := 41 }) (ro_P (dC, dI) vwCl (RSw cI cZ b0 bR bI bC bY bZ bF bL bN bX bT mcd mwd men mR mI mC mY mZ mF mmd mhi mL mN mfr mX mT mct mtk) [(cI, .int), (cZ, .boolean)] [.ref b0, .int a1]) (rq_i post) 0 0 (fun _ => False) := by
  refine Met.ofW (cc := c_R_hasBytes) (maxL := 2) (ret := (some .boolean)) (by decide) rfl ?_
  intro p e s m args below meth c s₁ B hml hv
  obtain ⟨rfl, hP, hK⟩ := hv
  have hx := B.exec
  have hb := B.bytes
  have hr9 := B.returns
  have hts := atoms_spec (ws := ws_R_hasBytes) B.pre
  have hw : ∀ w ∈ WB_, w.before _ s = true := fun w h => hts w (List.mem_cons_of_mem _ h)
  have hown : s.vm.findClass R_R = some m.cls := findClass_of_methodNamed B.named
  have hlocks := B.notSynchronized
  have hl := lv_entry ([.ref b0, .int a1]) (n := 2) (Nat.le_of_ble_eq_true rfl)
  rw [lg_entry_eq]
  generalize (lg_sl ([.ref b0, .int a1]) ++ List.replicate (2 - (lg_sl ([.ref b0, .int a1])).length) Slot.unset).toArray = ls at hl ⊢
  have hl : lv_has ls 2 [(0, .ref b0), (1, .int a1)] := hl
  unfold wqR_hasBytes at h
  refine lv_aload_n hx hb d_R_hasBytes_0 rfl (lv_at hl 0 rfl) ?_
  refine lv_iload_n hx hb d_R_hasBytes_1 rfl (lv_at hl 1 rfl) ?_
  refine rq_calli (W.runV (As := [.int a1]) (rest := []) ⟨hx, hb, hml, hown, hw⟩ (mR_has l dC dI cI cZ b0 bR bI bC bY bZ bF bL bN bX bT mcd mwd men mR mI mC mY mZ mF mmd mhi mL mN mfr mX mT mct mtk a1 _ h) (cwV 1 hw g_R_59 rfl rfl rfl (by decide +kernel) ⟨Nat.le_of_ble_eq_true rfl, Nat.le_of_ble_eq_true rfl⟩) (ro_PV (ci := 2) (q0 := 0) hK hP rfl rfl) rfl rfl hl.1 rfl (lv_room (Nat.le_of_ble_eq_true rfl)) d_R_hasBytes_2 ⟨Nat.le_of_ble_eq_true rfl, Nat.le_of_ble_eq_true rfl⟩) (fun r2 h => ?_)
  refine lv_if_eq (tgt := 29) hx hb d_R_hasBytes_5 (by decide) (fun c_5 => ?_) (fun c_5 => ?_)
  · have h := h.1 c_5
    refine lv_iconst (v := (0 : Int32)) hx hb d_R_hasBytes_29 (by decide) ?_
    exact W.zret (v := (0 : Int32)) (ty := .boolean) hx hb hr9 rfl (fun t ht hW => ⟨_, rfl, h, ht⟩) (fun _ h9 => nomatch h9) d_R_hasBytes_30
  · have h := h.2 c_5
    refine lv_aload_n hx hb d_R_hasBytes_8 rfl (lv_at hl 0 rfl) ?_
    refine va_get (D := (dC, dI)) (ci := 2) (v := .ref bY) (C := R_R) (T := T_R) (N := 18) hx hb hw in_R hown hK hP 0 rfl rfl 6 (by decide) (hw _ wd_622) (fun _ h9 => h9) rfl d_R_hasBytes_9 ?_
    refine lv_aload_n hx hb d_R_hasBytes_12 rfl (lv_at hl 0 rfl) ?_
    refine va_get (D := (dC, dI)) (ci := 2) (v := .ref bR) (C := R_R) (T := T_R) (N := 18) hx hb hw in_R hown hK hP 0 rfl rfl 3 (by decide) (hw _ wd_619) (fun _ h9 => h9) rfl d_R_hasBytes_13 ?_
    refine lv_iload_n hx hb d_R_hasBytes_16 rfl (lv_at hl 1 rfl) ?_
    refine va_iald hx hb hK hP 1 0 rfl rfl h.1 d_R_hasBytes_17 ?_
    have h := h.2
    refine rq_calli (W.runS (As := [.int (mR a1.toNatClampNeg)]) (rest := [.ref bY]) ⟨hx, hb, hml, hown, hw⟩ (mR_placeOf l (mR a1.toNatClampNeg) _ h) (va_cwS 1 hw g_R_62 rfl rfl rfl (by decide +kernel) ⟨Nat.le_of_ble_eq_true rfl, Nat.le_of_ble_eq_true rfl⟩) preEq rfl rfl hl.1 rfl (lv_room (Nat.le_of_ble_eq_true rfl)) d_R_hasBytes_18 ⟨Nat.le_of_ble_eq_true rfl, Nat.le_of_ble_eq_true rfl⟩) (fun r18 h => ?_)
    refine va_zald hx hb hK hP 4 1 rfl rfl h.1 d_R_hasBytes_21 ?_
    have h := h.2
    refine lv_if_eq (tgt := 29) hx hb d_R_hasBytes_22 (by decide) (fun c_22 => ?_) (fun c_22 => ?_)
    · have h := h.1 c_22
      refine lv_iconst (v := (0 : Int32)) hx hb d_R_hasBytes_29 (by decide) ?_
      exact W.zret (v := (0 : Int32)) (ty := .boolean) hx hb hr9 rfl (fun t ht hW => ⟨_, rfl, h, ht⟩) (fun _ h9 => nomatch h9) d_R_hasBytes_30
    · have h := h.2 c_22
      refine lv_iconst (v := (1 : Int32)) hx hb d_R_hasBytes_25 (by decide) ?_
      refine lv_goto (tgt := 30) hx hb d_R_hasBytes_26 (by decide) ?_
      exact W.zret (v := (1 : Int32)) (ty := .boolean) hx hb hr9 rfl (fun t ht hW => ⟨_, rfl, h, ht⟩) (fun _ h9 => nomatch h9) d_R_hasBytes_30
def wqR_sizeOf (mR : Nat → Int32) (mZ : Nat → Int32) (a1 : Int32) (post : Int32 → Prop) : Prop :=
  vp_in a1 32 ∧ (wqR_placeOf (mR a1.toNatClampNeg) (fun r10 => vp_in r10 8192 ∧ (post (mZ r10.toNatClampNeg))))
set_option maxHeartbeats 4000000 in
set_option maxRecDepth 100000 in
theorem mR_sizeOf (l : Launch) (dC : Nat → ClassId) (dI : Nat → Nat → Nat) (cI : ClassId) (cZ : ClassId) (b0 : Nat) (bR : Nat) (bI : Nat) (bC : Nat) (bY : Nat) (bZ : Nat) (bF : Nat) (bL : Nat) (bN : Nat) (bX : Nat) (bT : Nat) (mcd : Int32) (mwd : Int32) (men : Int32) (mR : Nat → Int32) (mI : Nat → Int32) (mC : Nat → Int32) (mY : Nat → Int32) (mZ : Nat → Int32) (mF : Nat → Int32) (mmd : Int32) (mhi : Int32) (mL : Nat → Int32) (mN : Nat → Int32) (mfr : Int32) (mX : Nat → Int32) (mT : Nat → Int32) (mct : Int32) (mtk : Int32) (a1 : Int32) (post : Int32 → Prop) (h : wqR_sizeOf mR mZ a1 post) : Met l y_R_sizeOf ws_R_sizeOf ({ frames := 1, cells := 0, slots := 0, locals := 20 }) (ro_P (dC, dI) vwCl (RSw cI cZ b0 bR bI bC bY bZ bF bL bN bX bT mcd mwd men mR mI mC mY mZ mF mmd mhi mL mN mfr mX mT mct mtk) [(cI, .int), (cZ, .boolean)] [.ref b0, .int a1]) (rq_i post) 0 0 (fun _ => False) := by
  refine Met.ofW (cc := c_R_sizeOf) (maxL := 2) (ret := (some .int)) (by decide) rfl ?_
  intro p e s m args below meth c s₁ B hml hv
  obtain ⟨rfl, hP, hK⟩ := hv
  have hx := B.exec
  have hb := B.bytes
  have hr9 := B.returns
  have hts := atoms_spec (ws := ws_R_sizeOf) B.pre
  have hw : ∀ w ∈ WB_, w.before _ s = true := fun w h => hts w (List.mem_cons_of_mem _ h)
  have hown : s.vm.findClass R_R = some m.cls := findClass_of_methodNamed B.named
  have hlocks := B.notSynchronized
  have hl := lv_entry ([.ref b0, .int a1]) (n := 2) (Nat.le_of_ble_eq_true rfl)
  rw [lg_entry_eq]
  generalize (lg_sl ([.ref b0, .int a1]) ++ List.replicate (2 - (lg_sl ([.ref b0, .int a1])).length) Slot.unset).toArray = ls at hl ⊢
  have hl : lv_has ls 2 [(0, .ref b0), (1, .int a1)] := hl
  unfold wqR_sizeOf at h
  refine lv_aload_n hx hb d_R_sizeOf_0 rfl (lv_at hl 0 rfl) ?_
  refine va_get (D := (dC, dI)) (ci := 2) (v := .ref bZ) (C := R_R) (T := T_R) (N := 18) hx hb hw in_R hown hK hP 0 rfl rfl 7 (by decide) (hw _ wd_623) (fun _ h9 => h9) rfl d_R_sizeOf_1 ?_
  refine lv_aload_n hx hb d_R_sizeOf_4 rfl (lv_at hl 0 rfl) ?_
  refine va_get (D := (dC, dI)) (ci := 2) (v := .ref bR) (C := R_R) (T := T_R) (N := 18) hx hb hw in_R hown hK hP 0 rfl rfl 3 (by decide) (hw _ wd_619) (fun _ h9 => h9) rfl d_R_sizeOf_5 ?_
  refine lv_iload_n hx hb d_R_sizeOf_8 rfl (lv_at hl 1 rfl) ?_
  refine va_iald hx hb hK hP 1 0 rfl rfl h.1 d_R_sizeOf_9 ?_
  have h := h.2
  refine rq_calli (W.runS (As := [.int (mR a1.toNatClampNeg)]) (rest := [.ref bZ]) ⟨hx, hb, hml, hown, hw⟩ (mR_placeOf l (mR a1.toNatClampNeg) _ h) (va_cwS 1 hw g_R_62 rfl rfl rfl (by decide +kernel) ⟨Nat.le_of_ble_eq_true rfl, Nat.le_of_ble_eq_true rfl⟩) preEq rfl rfl hl.1 rfl (lv_room (Nat.le_of_ble_eq_true rfl)) d_R_sizeOf_10 ⟨Nat.le_of_ble_eq_true rfl, Nat.le_of_ble_eq_true rfl⟩) (fun r10 h => ?_)
  refine va_iald hx hb hK hP 5 0 rfl rfl h.1 d_R_sizeOf_13 ?_
  have h := h.2
  exact W.iret (v := mZ r10.toNatClampNeg) hx hb hr9 (fun t ht hW => ⟨_, rfl, h, ht⟩) (fun _ h9 => nomatch h9) d_R_sizeOf_14
def wqR_cellAt_10 (mF : Nat → Int32) (mN : Nat → Int32) (y1_10 : Int32) (y2_10 : Int32) (post : Int32 → Prop) (kx : Int32 → Int32 → Prop) : Nat → Int32 → Int32 → Prop
  | 0, _, _ => False
  | n + 1, x3_10, x4_10 =>
    (y2_10 ≤ x4_10 → (kx x3_10 x4_10)) ∧ (¬ (y2_10 ≤ x4_10) → (vp_in x3_10 65536 ∧ (wqR_cellAt_10 mF mN y1_10 y2_10 post kx n (mN x3_10.toNatClampNeg) (x4_10 + (1 : Int32)))))
def wqR_cellAt (mF : Nat → Int32) (mN : Nat → Int32) (a1 : Int32) (a2 : Int32) (post : Int32 → Prop) : Prop :=
  vp_in a1 8192 ∧ (∃ k_10, wqR_cellAt_10 mF mN a1 a2 post (fun z3_10 z4_10 => post z3_10) k_10 (mF a1.toNatClampNeg) (0 : Int32))
set_option maxHeartbeats 4000000 in
set_option maxRecDepth 100000 in
theorem mR_cellAt (l : Launch) (dC : Nat → ClassId) (dI : Nat → Nat → Nat) (cI : ClassId) (cZ : ClassId) (b0 : Nat) (bR : Nat) (bI : Nat) (bC : Nat) (bY : Nat) (bZ : Nat) (bF : Nat) (bL : Nat) (bN : Nat) (bX : Nat) (bT : Nat) (mcd : Int32) (mwd : Int32) (men : Int32) (mR : Nat → Int32) (mI : Nat → Int32) (mC : Nat → Int32) (mY : Nat → Int32) (mZ : Nat → Int32) (mF : Nat → Int32) (mmd : Int32) (mhi : Int32) (mL : Nat → Int32) (mN : Nat → Int32) (mfr : Int32) (mX : Nat → Int32) (mT : Nat → Int32) (mct : Int32) (mtk : Int32) (a1 : Int32) (a2 : Int32) (post : Int32 → Prop) (h : wqR_cellAt mF mN a1 a2 post) : Met l y_R_cellAt ws_R_cellAt ({ frames := 0, cells := 0, slots := 0, locals := 0 }) (ro_P (dC, dI) vwCl (RSw cI cZ b0 bR bI bC bY bZ bF bL bN bX bT mcd mwd men mR mI mC mY mZ mF mmd mhi mL mN mfr mX mT mct mtk) [(cI, .int), (cZ, .boolean)] [.ref b0, .int a1, .int a2]) (rq_i post) 0 0 (fun _ => False) := by
  refine Met.ofW (cc := c_R_cellAt) (maxL := 5) (ret := (some .int)) (by decide) rfl ?_
  intro p e s m args below meth c s₁ B hml hv
  obtain ⟨rfl, hP, hK⟩ := hv
  have hx := B.exec
  have hb := B.bytes
  have hr9 := B.returns
  have hts := atoms_spec (ws := ws_R_cellAt) B.pre
  have hw : ∀ w ∈ WB_, w.before _ s = true := fun w h => hts w (List.mem_cons_of_mem _ h)
  have hown : s.vm.findClass R_R = some m.cls := findClass_of_methodNamed B.named
  have hlocks := B.notSynchronized
  have hl := lv_entry ([.ref b0, .int a1, .int a2]) (n := 5) (Nat.le_of_ble_eq_true rfl)
  rw [lg_entry_eq]
  generalize (lg_sl ([.ref b0, .int a1, .int a2]) ++ List.replicate (5 - (lg_sl ([.ref b0, .int a1, .int a2])).length) Slot.unset).toArray = ls at hl ⊢
  have hl : lv_has ls 5 [(0, .ref b0), (1, .int a1), (2, .int a2)] := hl
  have lp_10 : ∀ (y1_10 : Int32) (y2_10 : Int32) (kx : Int32 → Int32 → Prop), (∀ (z3_10 : Int32) (z4_10 : Int32) (ls : Array Slot), lv_has ls 5 [(0, .ref b0), (1, .int y1_10), (2, .int y2_10), (3, .int z3_10), (4, .int z4_10)] → kx z3_10 z4_10 → W p l e (headSpec ws_R_cellAt ({ frames := 0, cells := 0, slots := 0, locals := 0 })).room s m ([.ref b0, .int a1, .int a2] : List Value).toArray below meth c s.heap [] (0) (0) (MQ below (rq_i post) ([.ref b0, .int a1, .int a2] : List Value).toArray s 0 0 (fun _ => False)) (F0 m 29 ls [])) → ∀ (n : Nat) (x3_10 : Int32) (x4_10 : Int32) (ls : Array Slot), lv_has ls 5 [(0, .ref b0), (1, .int y1_10), (2, .int y2_10), (3, .int x3_10), (4, .int x4_10)] → wqR_cellAt_10 mF mN y1_10 y2_10 post kx n x3_10 x4_10 → W p l e (headSpec ws_R_cellAt ({ frames := 0, cells := 0, slots := 0, locals := 0 })).room s m ([.ref b0, .int a1, .int a2] : List Value).toArray below meth c s.heap [] (0) (0) (MQ below (rq_i post) ([.ref b0, .int a1, .int a2] : List Value).toArray s 0 0 (fun _ => False)) (F0 m 10 ls []) := by
    intro y1_10 y2_10 kx K n
    induction n with
    | zero => intro x3_10 x4_10 ls hl h; exact h.elim
    | succ n ih =>
      intro x3_10 x4_10 ls hl h
      refine lv_iload hx hb d_R_cellAt_10 (lv_at hl 4 rfl) ?_
      refine lv_iload_n hx hb d_R_cellAt_12 rfl (lv_at hl 2 rfl) ?_
      refine lv_icmp_ge (tgt := 29) hx hb d_R_cellAt_13 (by decide) (fun c_13 => ?_) (fun c_13 => ?_)
      · have h := h.1 c_13
        exact K x3_10 x4_10 ls (lv_sub hl [0, 1, 2, 3, 4] rfl) h
      · have h := h.2 c_13
        refine lv_aload_n hx hb d_R_cellAt_16 rfl (lv_at hl 0 rfl) ?_
        refine va_get (D := (dC, dI)) (ci := 2) (v := .ref bN) (C := R_R) (T := T_R) (N := 18) hx hb hw in_R hown hK hP 0 rfl rfl 12 (by decide) (hw _ wd_628) (fun _ h9 => h9) rfl d_R_cellAt_17 ?_
        refine lv_iload_n hx hb d_R_cellAt_20 rfl (lv_at hl 3 rfl) ?_
        refine va_iald hx hb hK hP 8 0 rfl rfl h.1 d_R_cellAt_21 ?_
        have h := h.2
        refine lv_istore_n (lv' := [(3, .int (mN x3_10.toNatClampNeg)), (0, .ref b0), (1, .int y1_10), (2, .int y2_10), (4, .int x4_10)]) hx hb d_R_cellAt_22 rfl hl (by decide) rfl (fun ls hl => ?_)
        refine lv_iinc (v := x4_10 + (1 : Int32)) (lv' := [(4, .int (x4_10 + (1 : Int32))), (3, .int (mN x3_10.toNatClampNeg)), (0, .ref b0), (1, .int y1_10), (2, .int y2_10)]) hx hb d_R_cellAt_23 hl (k := 4) rfl rfl (by decide) rfl (fun ls hl => ?_)
        refine lv_goto (tgt := 10) hx hb d_R_cellAt_26 (by decide) ?_
        exact ih (mN x3_10.toNatClampNeg) (x4_10 + (1 : Int32)) ls (lv_sub hl [2, 3, 4, 1, 0] rfl) h
  unfold wqR_cellAt at h
  refine lv_aload_n hx hb d_R_cellAt_0 rfl (lv_at hl 0 rfl) ?_
  refine va_get (D := (dC, dI)) (ci := 2) (v := .ref bF) (C := R_R) (T := T_R) (N := 18) hx hb hw in_R hown hK hP 0 rfl rfl 8 (by decide) (hw _ wd_624) (fun _ h9 => h9) rfl d_R_cellAt_1 ?_
  refine lv_iload_n hx hb d_R_cellAt_4 rfl (lv_at hl 1 rfl) ?_
  refine va_iald hx hb hK hP 6 0 rfl rfl h.1 d_R_cellAt_5 ?_
  have h := h.2
  refine lv_istore_n (lv' := [(3, .int (mF a1.toNatClampNeg)), (0, .ref b0), (1, .int a1), (2, .int a2)]) hx hb d_R_cellAt_6 rfl hl (by decide) rfl (fun ls hl => ?_)
  refine lv_iconst (v := (0 : Int32)) hx hb d_R_cellAt_7 (by decide) ?_
  refine lv_istore (lv' := [(4, .int (0 : Int32)), (3, .int (mF a1.toNatClampNeg)), (0, .ref b0), (1, .int a1), (2, .int a2)]) hx hb d_R_cellAt_8 hl (by decide) rfl (fun ls hl => ?_)
  obtain ⟨n_10, h⟩ := h
  refine lp_10 a1 a2 _ (fun z3_10 z4_10 ls hl h => ?_) n_10 (mF a1.toNatClampNeg) (0 : Int32) ls (lv_sub hl [2, 3, 4, 1, 0] rfl) h
  refine lv_iload_n hx hb d_R_cellAt_29 rfl (lv_at hl 3 rfl) ?_
  exact W.iret (v := z3_10) hx hb hr9 (fun t ht hW => ⟨_, rfl, h, ht⟩) (fun _ h9 => nomatch h9) d_R_cellAt_30
def wqR_byteOf (mF : Nat → Int32) (mL : Nat → Int32) (mN : Nat → Int32) (a1 : Int32) (a2 : Int32) (post : Int32 → Prop) : Prop :=
  wqR_cellAt mF mN a1 (a2 / (4 : Int32)) (fun r9 => vp_in r9 65536 ∧ (post ((((mL r9.toNatClampNeg).toUInt32 >>> (((24 : Int32) - ((8 : Int32) * (a2 - a2 / (4 : Int32) * (4 : Int32)))).toUInt32 &&& Int32.toUInt32 31)).toInt32) &&& (255 : Int32))))
set_option maxHeartbeats 4000000 in
set_option maxRecDepth 100000 in
theorem mR_byteOf (l : Launch) (dC : Nat → ClassId) (dI : Nat → Nat → Nat) (cI : ClassId) (cZ : ClassId) (b0 : Nat) (bR : Nat) (bI : Nat) (bC : Nat) (bY : Nat) (bZ : Nat) (bF : Nat) (bL : Nat) (bN : Nat) (bX : Nat) (bT : Nat) (mcd : Int32) (mwd : Int32) (men : Int32) (mR : Nat → Int32) (mI : Nat → Int32) (mC : Nat → Int32) (mY : Nat → Int32) (mZ : Nat → Int32) (mF : Nat → Int32) (mmd : Int32) (mhi : Int32) (mL : Nat → Int32) (mN : Nat → Int32) (mfr : Int32) (mX : Nat → Int32) (mT : Nat → Int32) (mct : Int32) (mtk : Int32) (a1 : Int32) (a2 : Int32) (post : Int32 → Prop) (h : wqR_byteOf mF mL mN a1 a2 post) : Met l y_R_byteOf ws_R_byteOf ({ frames := 1, cells := 0, slots := 0, locals := 24 }) (ro_P (dC, dI) vwCl (RSw cI cZ b0 bR bI bC bY bZ bF bL bN bX bT mcd mwd men mR mI mC mY mZ mF mmd mhi mL mN mfr mX mT mct mtk) [(cI, .int), (cZ, .boolean)] [.ref b0, .int a1, .int a2]) (rq_i post) 0 0 (fun _ => False) := by
  refine Met.ofW (cc := c_R_byteOf) (maxL := 3) (ret := (some .int)) (by decide) rfl ?_
  intro p e s m args below meth c s₁ B hml hv
  obtain ⟨rfl, hP, hK⟩ := hv
  have hx := B.exec
  have hb := B.bytes
  have hr9 := B.returns
  have hts := atoms_spec (ws := ws_R_byteOf) B.pre
  have hw : ∀ w ∈ WB_, w.before _ s = true := fun w h => hts w (List.mem_cons_of_mem _ h)
  have hown : s.vm.findClass R_R = some m.cls := findClass_of_methodNamed B.named
  have hlocks := B.notSynchronized
  have hl := lv_entry ([.ref b0, .int a1, .int a2]) (n := 3) (Nat.le_of_ble_eq_true rfl)
  rw [lg_entry_eq]
  generalize (lg_sl ([.ref b0, .int a1, .int a2]) ++ List.replicate (3 - (lg_sl ([.ref b0, .int a1, .int a2])).length) Slot.unset).toArray = ls at hl ⊢
  have hl : lv_has ls 3 [(0, .ref b0), (1, .int a1), (2, .int a2)] := hl
  unfold wqR_byteOf at h
  refine lv_aload_n hx hb d_R_byteOf_0 rfl (lv_at hl 0 rfl) ?_
  refine va_get (D := (dC, dI)) (ci := 2) (v := .ref bL) (C := R_R) (T := T_R) (N := 18) hx hb hw in_R hown hK hP 0 rfl rfl 11 (by decide) (hw _ wd_627) (fun _ h9 => h9) rfl d_R_byteOf_1 ?_
  refine lv_aload_n hx hb d_R_byteOf_4 rfl (lv_at hl 0 rfl) ?_
  refine lv_iload_n hx hb d_R_byteOf_5 rfl (lv_at hl 1 rfl) ?_
  refine lv_iload_n hx hb d_R_byteOf_6 rfl (lv_at hl 2 rfl) ?_
  refine lv_iconst (v := (4 : Int32)) hx hb d_R_byteOf_7 (by decide) ?_
  refine lv_idiv hx hb d_R_byteOf_8 (by decide) ?_
  refine rq_calli (W.runV (As := [.int a1, .int (a2 / (4 : Int32))]) (rest := [.ref bL]) ⟨hx, hb, hml, hown, hw⟩ (mR_cellAt l dC dI cI cZ b0 bR bI bC bY bZ bF bL bN bX bT mcd mwd men mR mI mC mY mZ mF mmd mhi mL mN mfr mX mT mct mtk a1 (a2 / (4 : Int32)) _ h) (cwV 2 hw g_R_123 rfl rfl rfl (by decide +kernel) ⟨Nat.le_of_ble_eq_true rfl, Nat.le_of_ble_eq_true rfl⟩) (ro_PV (ci := 2) (q0 := 0) hK hP rfl rfl) rfl rfl hl.1 rfl (lv_room (Nat.le_of_ble_eq_true rfl)) d_R_byteOf_9 ⟨Nat.le_of_ble_eq_true rfl, Nat.le_of_ble_eq_true rfl⟩) (fun r9 h => ?_)
  refine va_iald hx hb hK hP 7 0 rfl rfl h.1 d_R_byteOf_12 ?_
  have h := h.2
  refine lv_bipush (v := (24 : Int32)) hx hb d_R_byteOf_13 (by decide) ?_
  refine lv_bipush (v := (8 : Int32)) hx hb d_R_byteOf_15 (by decide) ?_
  refine lv_iload_n hx hb d_R_byteOf_17 rfl (lv_at hl 2 rfl) ?_
  refine lv_iconst (v := (4 : Int32)) hx hb d_R_byteOf_18 (by decide) ?_
  refine lv_irem hx hb d_R_byteOf_19 (by decide) ?_
  refine lv_imul hx hb d_R_byteOf_20 ?_
  refine lv_isub hx hb d_R_byteOf_21 ?_
  refine lv_iushr (v := ((mL r9.toNatClampNeg).toUInt32 >>> (((24 : Int32) - ((8 : Int32) * (a2 - a2 / (4 : Int32) * (4 : Int32)))).toUInt32 &&& Int32.toUInt32 31)).toInt32) hx hb d_R_byteOf_22 rfl ?_
  refine lv_sipush (v := (255 : Int32)) hx hb d_R_byteOf_23 (by decide) ?_
  refine lv_iand hx hb d_R_byteOf_26 ?_
  exact W.iret (v := (((mL r9.toNatClampNeg).toUInt32 >>> (((24 : Int32) - ((8 : Int32) * (a2 - a2 / (4 : Int32) * (4 : Int32)))).toUInt32 &&& Int32.toUInt32 31)).toInt32) &&& (255 : Int32)) hx hb hr9 (fun t ht hW => ⟨_, rfl, h, ht⟩) (fun _ h9 => nomatch h9) d_R_byteOf_27
def wqR_nextOf_5 (mI : Nat → Int32) (mC : Nat → Int32) (mT : Nat → Int32) (mct : Int32) (y1_5 : Int32) (y2_5 : Int32) (post : Int32 → Prop) (kx : Int32 → Int32 → Prop) : Nat → Int32 → Int32 → Prop
  | 0, _, _ => False
  | n + 1, x3_5, x4_5 =>
    (mct ≤ x4_5 → (kx x3_5 x4_5)) ∧ (¬ (mct ≤ x4_5) → (vp_in x4_5 8192 ∧ (vp_in (mT x4_5.toNatClampNeg) 8192 ∧ (((mC (mT x4_5.toNatClampNeg).toNatClampNeg) = y1_5 → (vp_in (mT x4_5.toNatClampNeg) 8192 ∧ (((mI (mT x4_5.toNatClampNeg).toNatClampNeg) ≤ y2_5 → (((0 : Int32) = 0 → (wqR_nextOf_5 mI mC mT mct y1_5 y2_5 post kx n x3_5 (x4_5 + (1 : Int32)))) ∧ (¬ ((0 : Int32) = 0) → ((x3_5 < 0 → (wqR_nextOf_5 mI mC mT mct y1_5 y2_5 post kx n (mT x4_5.toNatClampNeg) (x4_5 + (1 : Int32)))) ∧ (¬ (x3_5 < 0) → (vp_in (mT x4_5.toNatClampNeg) 8192 ∧ (vp_in x3_5 8192 ∧ (((mI x3_5.toNatClampNeg) ≤ (mI (mT x4_5.toNatClampNeg).toNatClampNeg) → (wqR_nextOf_5 mI mC mT mct y1_5 y2_5 post kx n x3_5 (x4_5 + (1 : Int32)))) ∧ (¬ ((mI x3_5.toNatClampNeg) ≤ (mI (mT x4_5.toNatClampNeg).toNatClampNeg)) → (wqR_nextOf_5 mI mC mT mct y1_5 y2_5 post kx n (mT x4_5.toNatClampNeg) (x4_5 + (1 : Int32)))))))))))) ∧ (¬ ((mI (mT x4_5.toNatClampNeg).toNatClampNeg) ≤ y2_5) → (((1 : Int32) = 0 → (wqR_nextOf_5 mI mC mT mct y1_5 y2_5 post kx n x3_5 (x4_5 + (1 : Int32)))) ∧ (¬ ((1 : Int32) = 0) → ((x3_5 < 0 → (wqR_nextOf_5 mI mC mT mct y1_5 y2_5 post kx n (mT x4_5.toNatClampNeg) (x4_5 + (1 : Int32)))) ∧ (¬ (x3_5 < 0) → (vp_in (mT x4_5.toNatClampNeg) 8192 ∧ (vp_in x3_5 8192 ∧ (((mI x3_5.toNatClampNeg) ≤ (mI (mT x4_5.toNatClampNeg).toNatClampNeg) → (wqR_nextOf_5 mI mC mT mct y1_5 y2_5 post kx n x3_5 (x4_5 + (1 : Int32)))) ∧ (¬ ((mI x3_5.toNatClampNeg) ≤ (mI (mT x4_5.toNatClampNeg).toNatClampNeg)) → (wqR_nextOf_5 mI mC mT mct y1_5 y2_5 post kx n (mT x4_5.toNatClampNeg) (x4_5 + (1 : Int32))))))))))))))) ∧ (¬ ((mC (mT x4_5.toNatClampNeg).toNatClampNeg) = y1_5) → (((0 : Int32) = 0 → (wqR_nextOf_5 mI mC mT mct y1_5 y2_5 post kx n x3_5 (x4_5 + (1 : Int32)))) ∧ (¬ ((0 : Int32) = 0) → ((x3_5 < 0 → (wqR_nextOf_5 mI mC mT mct y1_5 y2_5 post kx n (mT x4_5.toNatClampNeg) (x4_5 + (1 : Int32)))) ∧ (¬ (x3_5 < 0) → (vp_in (mT x4_5.toNatClampNeg) 8192 ∧ (vp_in x3_5 8192 ∧ (((mI x3_5.toNatClampNeg) ≤ (mI (mT x4_5.toNatClampNeg).toNatClampNeg) → (wqR_nextOf_5 mI mC mT mct y1_5 y2_5 post kx n x3_5 (x4_5 + (1 : Int32)))) ∧ (¬ ((mI x3_5.toNatClampNeg) ≤ (mI (mT x4_5.toNatClampNeg).toNatClampNeg)) → (wqR_nextOf_5 mI mC mT mct y1_5 y2_5 post kx n (mT x4_5.toNatClampNeg) (x4_5 + (1 : Int32))))))))))))))))
def wqR_nextOf (mI : Nat → Int32) (mC : Nat → Int32) (mT : Nat → Int32) (mct : Int32) (a1 : Int32) (a2 : Int32) (post : Int32 → Prop) : Prop :=
  ∃ k_5, wqR_nextOf_5 mI mC mT mct a1 a2 post (fun z3_5 z4_5 => post z3_5) k_5 (-1 : Int32) (0 : Int32)
set_option maxHeartbeats 4000000 in
set_option maxRecDepth 100000 in
theorem mR_nextOf (l : Launch) (dC : Nat → ClassId) (dI : Nat → Nat → Nat) (cI : ClassId) (cZ : ClassId) (b0 : Nat) (bR : Nat) (bI : Nat) (bC : Nat) (bY : Nat) (bZ : Nat) (bF : Nat) (bL : Nat) (bN : Nat) (bX : Nat) (bT : Nat) (mcd : Int32) (mwd : Int32) (men : Int32) (mR : Nat → Int32) (mI : Nat → Int32) (mC : Nat → Int32) (mY : Nat → Int32) (mZ : Nat → Int32) (mF : Nat → Int32) (mmd : Int32) (mhi : Int32) (mL : Nat → Int32) (mN : Nat → Int32) (mfr : Int32) (mX : Nat → Int32) (mT : Nat → Int32) (mct : Int32) (mtk : Int32) (a1 : Int32) (a2 : Int32) (post : Int32 → Prop) (h : wqR_nextOf mI mC mT mct a1 a2 post) : Met l y_R_nextOf ws_R_nextOf ({ frames := 0, cells := 0, slots := 0, locals := 0 }) (ro_P (dC, dI) vwCl (RSw cI cZ b0 bR bI bC bY bZ bF bL bN bX bT mcd mwd men mR mI mC mY mZ mF mmd mhi mL mN mfr mX mT mct mtk) [(cI, .int), (cZ, .boolean)] [.ref b0, .int a1, .int a2]) (rq_i post) 0 0 (fun _ => False) := by
  refine Met.ofW (cc := c_R_nextOf) (maxL := 7) (ret := (some .int)) (by decide) rfl ?_
  intro p e s m args below meth c s₁ B hml hv
  obtain ⟨rfl, hP, hK⟩ := hv
  have hx := B.exec
  have hb := B.bytes
  have hr9 := B.returns
  have hts := atoms_spec (ws := ws_R_nextOf) B.pre
  have hw : ∀ w ∈ WB_, w.before _ s = true := fun w h => hts w (List.mem_cons_of_mem _ h)
  have hown : s.vm.findClass R_R = some m.cls := findClass_of_methodNamed B.named
  have hlocks := B.notSynchronized
  have hl := lv_entry ([.ref b0, .int a1, .int a2]) (n := 7) (Nat.le_of_ble_eq_true rfl)
  rw [lg_entry_eq]
  generalize (lg_sl ([.ref b0, .int a1, .int a2]) ++ List.replicate (7 - (lg_sl ([.ref b0, .int a1, .int a2])).length) Slot.unset).toArray = ls at hl ⊢
  have hl : lv_has ls 7 [(0, .ref b0), (1, .int a1), (2, .int a2)] := hl
  have lp_5 : ∀ (y1_5 : Int32) (y2_5 : Int32) (kx : Int32 → Int32 → Prop), (∀ (z3_5 : Int32) (z4_5 : Int32) (ls : Array Slot), lv_has ls 7 [(0, .ref b0), (1, .int y1_5), (2, .int y2_5), (3, .int z3_5), (4, .int z4_5)] → kx z3_5 z4_5 → W p l e (headSpec ws_R_nextOf ({ frames := 0, cells := 0, slots := 0, locals := 0 })).room s m ([.ref b0, .int a1, .int a2] : List Value).toArray below meth c s.heap [] (0) (0) (MQ below (rq_i post) ([.ref b0, .int a1, .int a2] : List Value).toArray s 0 0 (fun _ => False)) (F0 m 90 ls [])) → ∀ (n : Nat) (x3_5 : Int32) (x4_5 : Int32) (ls : Array Slot), lv_has ls 7 [(0, .ref b0), (1, .int y1_5), (2, .int y2_5), (3, .int x3_5), (4, .int x4_5)] → wqR_nextOf_5 mI mC mT mct y1_5 y2_5 post kx n x3_5 x4_5 → W p l e (headSpec ws_R_nextOf ({ frames := 0, cells := 0, slots := 0, locals := 0 })).room s m ([.ref b0, .int a1, .int a2] : List Value).toArray below meth c s.heap [] (0) (0) (MQ below (rq_i post) ([.ref b0, .int a1, .int a2] : List Value).toArray s 0 0 (fun _ => False)) (F0 m 5 ls []) := by
    intro y1_5 y2_5 kx K n
    induction n with
    | zero => intro x3_5 x4_5 ls hl h; exact h.elim
    | succ n ih =>
      intro x3_5 x4_5 ls hl h
      refine lv_iload hx hb d_R_nextOf_5 (lv_at hl 4 rfl) ?_
      refine lv_aload_n hx hb d_R_nextOf_7 rfl (lv_at hl 0 rfl) ?_
      refine va_get (D := (dC, dI)) (ci := 2) (v := .int mct) (C := R_R) (T := T_R) (N := 18) hx hb hw in_R hown hK hP 0 rfl rfl 16 (by decide) (hw _ wd_632) (fun _ h9 => h9) rfl d_R_nextOf_8 ?_
      refine lv_icmp_ge (tgt := 90) hx hb d_R_nextOf_11 (by decide) (fun c_11 => ?_) (fun c_11 => ?_)
      · have h := h.1 c_11
        exact K x3_5 x4_5 ls (lv_sub hl [0, 1, 2, 3, 4] rfl) h
      · have h := h.2 c_11
        refine lv_aload_n hx hb d_R_nextOf_14 rfl (lv_at hl 0 rfl) ?_
        refine va_get (D := (dC, dI)) (ci := 2) (v := .ref bT) (C := R_R) (T := T_R) (N := 18) hx hb hw in_R hown hK hP 0 rfl rfl 15 (by decide) (hw _ wd_631) (fun _ h9 => h9) rfl d_R_nextOf_15 ?_
        refine lv_iload hx hb d_R_nextOf_18 (lv_at hl 4 rfl) ?_
        refine va_iald hx hb hK hP 10 0 rfl rfl h.1 d_R_nextOf_20 ?_
        have h := h.2
        refine lv_istore (lv' := [(5, .int (mT x4_5.toNatClampNeg)), (0, .ref b0), (1, .int y1_5), (2, .int y2_5), (3, .int x3_5), (4, .int x4_5)]) hx hb d_R_nextOf_21 hl (by decide) rfl (fun ls hl => ?_)
        refine lv_aload_n hx hb d_R_nextOf_23 rfl (lv_at hl 1 rfl) ?_
        refine va_get (D := (dC, dI)) (ci := 2) (v := .ref bC) (C := R_R) (T := T_R) (N := 18) hx hb hw in_R hown hK hP 0 rfl rfl 5 (by decide) (hw _ wd_621) (fun _ h9 => h9) rfl d_R_nextOf_24 ?_
        refine lv_iload hx hb d_R_nextOf_27 (lv_at hl 0 rfl) ?_
        refine va_iald hx hb hK hP 3 0 rfl rfl h.1 d_R_nextOf_29 ?_
        have h := h.2
        refine lv_iload_n hx hb d_R_nextOf_30 rfl (lv_at hl 2 rfl) ?_
        refine lv_icmp_ne (tgt := 49) hx hb d_R_nextOf_31 (by decide) (fun c_31 => ?_) (fun c_31 => ?_)
        · have h := h.2 c_31
          refine lv_iconst (v := (0 : Int32)) hx hb d_R_nextOf_49 (by decide) ?_
          refine lv_istore (lv' := [(6, .int (0 : Int32)), (5, .int (mT x4_5.toNatClampNeg)), (0, .ref b0), (1, .int y1_5), (2, .int y2_5), (3, .int x3_5), (4, .int x4_5)]) hx hb d_R_nextOf_50 hl (by decide) rfl (fun ls hl => ?_)
          refine lv_iload hx hb d_R_nextOf_52 (lv_at hl 0 rfl) ?_
          refine lv_if_eq (tgt := 82) hx hb d_R_nextOf_54 (by decide) (fun c_54 => ?_) (fun c_54 => ?_)
          · have h := h.1 c_54
            refine lv_iload_n hx hb d_R_nextOf_82 rfl (lv_at hl 5 rfl) ?_
            refine lv_istore_n (lv' := [(3, .int x3_5), (6, .int (0 : Int32)), (5, .int (mT x4_5.toNatClampNeg)), (0, .ref b0), (1, .int y1_5), (2, .int y2_5), (4, .int x4_5)]) hx hb d_R_nextOf_83 rfl hl (by decide) rfl (fun ls hl => ?_)
            refine lv_iinc (v := x4_5 + (1 : Int32)) (lv' := [(4, .int (x4_5 + (1 : Int32))), (3, .int x3_5), (6, .int (0 : Int32)), (5, .int (mT x4_5.toNatClampNeg)), (0, .ref b0), (1, .int y1_5), (2, .int y2_5)]) hx hb d_R_nextOf_84 hl (k := 6) rfl rfl (by decide) rfl (fun ls hl => ?_)
            refine lv_goto (tgt := 5) hx hb d_R_nextOf_87 (by decide) ?_
            exact ih x3_5 (x4_5 + (1 : Int32)) ls (lv_sub hl [4, 5, 6, 1, 0] rfl) h
          · have h := h.2 c_54
            refine lv_iload_n hx hb d_R_nextOf_57 rfl (lv_at hl 5 rfl) ?_
            refine lv_if_lt (tgt := 77) hx hb d_R_nextOf_58 (by decide) (fun c_58 => ?_) (fun c_58 => ?_)
            · have h := h.1 c_58
              refine lv_iload hx hb d_R_nextOf_77 (lv_at hl 1 rfl) ?_
              refine lv_goto (tgt := 83) hx hb d_R_nextOf_79 (by decide) ?_
              refine lv_istore_n (lv' := [(3, .int (mT x4_5.toNatClampNeg)), (6, .int (0 : Int32)), (5, .int (mT x4_5.toNatClampNeg)), (0, .ref b0), (1, .int y1_5), (2, .int y2_5), (4, .int x4_5)]) hx hb d_R_nextOf_83 rfl hl (by decide) rfl (fun ls hl => ?_)
              refine lv_iinc (v := x4_5 + (1 : Int32)) (lv' := [(4, .int (x4_5 + (1 : Int32))), (3, .int (mT x4_5.toNatClampNeg)), (6, .int (0 : Int32)), (5, .int (mT x4_5.toNatClampNeg)), (0, .ref b0), (1, .int y1_5), (2, .int y2_5)]) hx hb d_R_nextOf_84 hl (k := 6) rfl rfl (by decide) rfl (fun ls hl => ?_)
              refine lv_goto (tgt := 5) hx hb d_R_nextOf_87 (by decide) ?_
              exact ih (mT x4_5.toNatClampNeg) (x4_5 + (1 : Int32)) ls (lv_sub hl [4, 5, 6, 1, 0] rfl) h
            · have h := h.2 c_58
              refine lv_aload_n hx hb d_R_nextOf_61 rfl (lv_at hl 2 rfl) ?_
              refine va_get (D := (dC, dI)) (ci := 2) (v := .ref bI) (C := R_R) (T := T_R) (N := 18) hx hb hw in_R hown hK hP 0 rfl rfl 4 (by decide) (hw _ wd_620) (fun _ h9 => h9) rfl d_R_nextOf_62 ?_
              refine lv_iload hx hb d_R_nextOf_65 (lv_at hl 1 rfl) ?_
              refine va_iald hx hb hK hP 2 0 rfl rfl h.1 d_R_nextOf_67 ?_
              have h := h.2
              refine lv_aload_n hx hb d_R_nextOf_68 rfl (lv_at hl 2 rfl) ?_
              refine va_get (D := (dC, dI)) (ci := 2) (v := .ref bI) (C := R_R) (T := T_R) (N := 18) hx hb hw in_R hown hK hP 0 rfl rfl 4 (by decide) (hw _ wd_620) (fun _ h9 => h9) rfl d_R_nextOf_69 ?_
              refine lv_iload_n hx hb d_R_nextOf_72 rfl (lv_at hl 5 rfl) ?_
              refine va_iald hx hb hK hP 2 0 rfl rfl h.1 d_R_nextOf_73 ?_
              have h := h.2
              refine lv_icmp_ge (tgt := 82) hx hb d_R_nextOf_74 (by decide) (fun c_74 => ?_) (fun c_74 => ?_)
              · have h := h.1 c_74
                refine lv_iload_n hx hb d_R_nextOf_82 rfl (lv_at hl 5 rfl) ?_
                refine lv_istore_n (lv' := [(3, .int x3_5), (6, .int (0 : Int32)), (5, .int (mT x4_5.toNatClampNeg)), (0, .ref b0), (1, .int y1_5), (2, .int y2_5), (4, .int x4_5)]) hx hb d_R_nextOf_83 rfl hl (by decide) rfl (fun ls hl => ?_)
                refine lv_iinc (v := x4_5 + (1 : Int32)) (lv' := [(4, .int (x4_5 + (1 : Int32))), (3, .int x3_5), (6, .int (0 : Int32)), (5, .int (mT x4_5.toNatClampNeg)), (0, .ref b0), (1, .int y1_5), (2, .int y2_5)]) hx hb d_R_nextOf_84 hl (k := 6) rfl rfl (by decide) rfl (fun ls hl => ?_)
                refine lv_goto (tgt := 5) hx hb d_R_nextOf_87 (by decide) ?_
                exact ih x3_5 (x4_5 + (1 : Int32)) ls (lv_sub hl [4, 5, 6, 1, 0] rfl) h
              · have h := h.2 c_74
                refine lv_iload hx hb d_R_nextOf_77 (lv_at hl 1 rfl) ?_
                refine lv_goto (tgt := 83) hx hb d_R_nextOf_79 (by decide) ?_
                refine lv_istore_n (lv' := [(3, .int (mT x4_5.toNatClampNeg)), (6, .int (0 : Int32)), (5, .int (mT x4_5.toNatClampNeg)), (0, .ref b0), (1, .int y1_5), (2, .int y2_5), (4, .int x4_5)]) hx hb d_R_nextOf_83 rfl hl (by decide) rfl (fun ls hl => ?_)
                refine lv_iinc (v := x4_5 + (1 : Int32)) (lv' := [(4, .int (x4_5 + (1 : Int32))), (3, .int (mT x4_5.toNatClampNeg)), (6, .int (0 : Int32)), (5, .int (mT x4_5.toNatClampNeg)), (0, .ref b0), (1, .int y1_5), (2, .int y2_5)]) hx hb d_R_nextOf_84 hl (k := 6) rfl rfl (by decide) rfl (fun ls hl => ?_)
                refine lv_goto (tgt := 5) hx hb d_R_nextOf_87 (by decide) ?_
                exact ih (mT x4_5.toNatClampNeg) (x4_5 + (1 : Int32)) ls (lv_sub hl [4, 5, 6, 1, 0] rfl) h
        · have h := h.1 c_31
          refine lv_aload_n hx hb d_R_nextOf_34 rfl (lv_at hl 1 rfl) ?_
          refine va_get (D := (dC, dI)) (ci := 2) (v := .ref bI) (C := R_R) (T := T_R) (N := 18) hx hb hw in_R hown hK hP 0 rfl rfl 4 (by decide) (hw _ wd_620) (fun _ h9 => h9) rfl d_R_nextOf_35 ?_
          refine lv_iload hx hb d_R_nextOf_38 (lv_at hl 0 rfl) ?_
          refine va_iald hx hb hK hP 2 0 rfl rfl h.1 d_R_nextOf_40 ?_
          have h := h.2
          refine lv_iload_n hx hb d_R_nextOf_41 rfl (lv_at hl 3 rfl) ?_
          refine lv_icmp_le (tgt := 49) hx hb d_R_nextOf_42 (by decide) (fun c_42 => ?_) (fun c_42 => ?_)
          · have h := h.1 c_42
            refine lv_iconst (v := (0 : Int32)) hx hb d_R_nextOf_49 (by decide) ?_
            refine lv_istore (lv' := [(6, .int (0 : Int32)), (5, .int (mT x4_5.toNatClampNeg)), (0, .ref b0), (1, .int y1_5), (2, .int y2_5), (3, .int x3_5), (4, .int x4_5)]) hx hb d_R_nextOf_50 hl (by decide) rfl (fun ls hl => ?_)
            refine lv_iload hx hb d_R_nextOf_52 (lv_at hl 0 rfl) ?_
            refine lv_if_eq (tgt := 82) hx hb d_R_nextOf_54 (by decide) (fun c_54 => ?_) (fun c_54 => ?_)
            · have h := h.1 c_54
              refine lv_iload_n hx hb d_R_nextOf_82 rfl (lv_at hl 5 rfl) ?_
              refine lv_istore_n (lv' := [(3, .int x3_5), (6, .int (0 : Int32)), (5, .int (mT x4_5.toNatClampNeg)), (0, .ref b0), (1, .int y1_5), (2, .int y2_5), (4, .int x4_5)]) hx hb d_R_nextOf_83 rfl hl (by decide) rfl (fun ls hl => ?_)
              refine lv_iinc (v := x4_5 + (1 : Int32)) (lv' := [(4, .int (x4_5 + (1 : Int32))), (3, .int x3_5), (6, .int (0 : Int32)), (5, .int (mT x4_5.toNatClampNeg)), (0, .ref b0), (1, .int y1_5), (2, .int y2_5)]) hx hb d_R_nextOf_84 hl (k := 6) rfl rfl (by decide) rfl (fun ls hl => ?_)
              refine lv_goto (tgt := 5) hx hb d_R_nextOf_87 (by decide) ?_
              exact ih x3_5 (x4_5 + (1 : Int32)) ls (lv_sub hl [4, 5, 6, 1, 0] rfl) h
            · have h := h.2 c_54
              refine lv_iload_n hx hb d_R_nextOf_57 rfl (lv_at hl 5 rfl) ?_
              refine lv_if_lt (tgt := 77) hx hb d_R_nextOf_58 (by decide) (fun c_58 => ?_) (fun c_58 => ?_)
              · have h := h.1 c_58
                refine lv_iload hx hb d_R_nextOf_77 (lv_at hl 1 rfl) ?_
                refine lv_goto (tgt := 83) hx hb d_R_nextOf_79 (by decide) ?_
                refine lv_istore_n (lv' := [(3, .int (mT x4_5.toNatClampNeg)), (6, .int (0 : Int32)), (5, .int (mT x4_5.toNatClampNeg)), (0, .ref b0), (1, .int y1_5), (2, .int y2_5), (4, .int x4_5)]) hx hb d_R_nextOf_83 rfl hl (by decide) rfl (fun ls hl => ?_)
                refine lv_iinc (v := x4_5 + (1 : Int32)) (lv' := [(4, .int (x4_5 + (1 : Int32))), (3, .int (mT x4_5.toNatClampNeg)), (6, .int (0 : Int32)), (5, .int (mT x4_5.toNatClampNeg)), (0, .ref b0), (1, .int y1_5), (2, .int y2_5)]) hx hb d_R_nextOf_84 hl (k := 6) rfl rfl (by decide) rfl (fun ls hl => ?_)
                refine lv_goto (tgt := 5) hx hb d_R_nextOf_87 (by decide) ?_
                exact ih (mT x4_5.toNatClampNeg) (x4_5 + (1 : Int32)) ls (lv_sub hl [4, 5, 6, 1, 0] rfl) h
              · have h := h.2 c_58
                refine lv_aload_n hx hb d_R_nextOf_61 rfl (lv_at hl 2 rfl) ?_
                refine va_get (D := (dC, dI)) (ci := 2) (v := .ref bI) (C := R_R) (T := T_R) (N := 18) hx hb hw in_R hown hK hP 0 rfl rfl 4 (by decide) (hw _ wd_620) (fun _ h9 => h9) rfl d_R_nextOf_62 ?_
                refine lv_iload hx hb d_R_nextOf_65 (lv_at hl 1 rfl) ?_
                refine va_iald hx hb hK hP 2 0 rfl rfl h.1 d_R_nextOf_67 ?_
                have h := h.2
                refine lv_aload_n hx hb d_R_nextOf_68 rfl (lv_at hl 2 rfl) ?_
                refine va_get (D := (dC, dI)) (ci := 2) (v := .ref bI) (C := R_R) (T := T_R) (N := 18) hx hb hw in_R hown hK hP 0 rfl rfl 4 (by decide) (hw _ wd_620) (fun _ h9 => h9) rfl d_R_nextOf_69 ?_
                refine lv_iload_n hx hb d_R_nextOf_72 rfl (lv_at hl 5 rfl) ?_
                refine va_iald hx hb hK hP 2 0 rfl rfl h.1 d_R_nextOf_73 ?_
                have h := h.2
                refine lv_icmp_ge (tgt := 82) hx hb d_R_nextOf_74 (by decide) (fun c_74 => ?_) (fun c_74 => ?_)
                · have h := h.1 c_74
                  refine lv_iload_n hx hb d_R_nextOf_82 rfl (lv_at hl 5 rfl) ?_
                  refine lv_istore_n (lv' := [(3, .int x3_5), (6, .int (0 : Int32)), (5, .int (mT x4_5.toNatClampNeg)), (0, .ref b0), (1, .int y1_5), (2, .int y2_5), (4, .int x4_5)]) hx hb d_R_nextOf_83 rfl hl (by decide) rfl (fun ls hl => ?_)
                  refine lv_iinc (v := x4_5 + (1 : Int32)) (lv' := [(4, .int (x4_5 + (1 : Int32))), (3, .int x3_5), (6, .int (0 : Int32)), (5, .int (mT x4_5.toNatClampNeg)), (0, .ref b0), (1, .int y1_5), (2, .int y2_5)]) hx hb d_R_nextOf_84 hl (k := 6) rfl rfl (by decide) rfl (fun ls hl => ?_)
                  refine lv_goto (tgt := 5) hx hb d_R_nextOf_87 (by decide) ?_
                  exact ih x3_5 (x4_5 + (1 : Int32)) ls (lv_sub hl [4, 5, 6, 1, 0] rfl) h
                · have h := h.2 c_74
                  refine lv_iload hx hb d_R_nextOf_77 (lv_at hl 1 rfl) ?_
                  refine lv_goto (tgt := 83) hx hb d_R_nextOf_79 (by decide) ?_
                  refine lv_istore_n (lv' := [(3, .int (mT x4_5.toNatClampNeg)), (6, .int (0 : Int32)), (5, .int (mT x4_5.toNatClampNeg)), (0, .ref b0), (1, .int y1_5), (2, .int y2_5), (4, .int x4_5)]) hx hb d_R_nextOf_83 rfl hl (by decide) rfl (fun ls hl => ?_)
                  refine lv_iinc (v := x4_5 + (1 : Int32)) (lv' := [(4, .int (x4_5 + (1 : Int32))), (3, .int (mT x4_5.toNatClampNeg)), (6, .int (0 : Int32)), (5, .int (mT x4_5.toNatClampNeg)), (0, .ref b0), (1, .int y1_5), (2, .int y2_5)]) hx hb d_R_nextOf_84 hl (k := 6) rfl rfl (by decide) rfl (fun ls hl => ?_)
                  refine lv_goto (tgt := 5) hx hb d_R_nextOf_87 (by decide) ?_
                  exact ih (mT x4_5.toNatClampNeg) (x4_5 + (1 : Int32)) ls (lv_sub hl [4, 5, 6, 1, 0] rfl) h
          · have h := h.2 c_42
            refine lv_iconst (v := (1 : Int32)) hx hb d_R_nextOf_45 (by decide) ?_
            refine lv_goto (tgt := 50) hx hb d_R_nextOf_46 (by decide) ?_
            refine lv_istore (lv' := [(6, .int (1 : Int32)), (5, .int (mT x4_5.toNatClampNeg)), (0, .ref b0), (1, .int y1_5), (2, .int y2_5), (3, .int x3_5), (4, .int x4_5)]) hx hb d_R_nextOf_50 hl (by decide) rfl (fun ls hl => ?_)
            refine lv_iload hx hb d_R_nextOf_52 (lv_at hl 0 rfl) ?_
            refine lv_if_eq (tgt := 82) hx hb d_R_nextOf_54 (by decide) (fun c_54 => ?_) (fun c_54 => ?_)
            · have h := h.1 c_54
              refine lv_iload_n hx hb d_R_nextOf_82 rfl (lv_at hl 5 rfl) ?_
              refine lv_istore_n (lv' := [(3, .int x3_5), (6, .int (1 : Int32)), (5, .int (mT x4_5.toNatClampNeg)), (0, .ref b0), (1, .int y1_5), (2, .int y2_5), (4, .int x4_5)]) hx hb d_R_nextOf_83 rfl hl (by decide) rfl (fun ls hl => ?_)
              refine lv_iinc (v := x4_5 + (1 : Int32)) (lv' := [(4, .int (x4_5 + (1 : Int32))), (3, .int x3_5), (6, .int (1 : Int32)), (5, .int (mT x4_5.toNatClampNeg)), (0, .ref b0), (1, .int y1_5), (2, .int y2_5)]) hx hb d_R_nextOf_84 hl (k := 6) rfl rfl (by decide) rfl (fun ls hl => ?_)
              refine lv_goto (tgt := 5) hx hb d_R_nextOf_87 (by decide) ?_
              exact ih x3_5 (x4_5 + (1 : Int32)) ls (lv_sub hl [4, 5, 6, 1, 0] rfl) h
            · have h := h.2 c_54
              refine lv_iload_n hx hb d_R_nextOf_57 rfl (lv_at hl 5 rfl) ?_
              refine lv_if_lt (tgt := 77) hx hb d_R_nextOf_58 (by decide) (fun c_58 => ?_) (fun c_58 => ?_)
              · have h := h.1 c_58
                refine lv_iload hx hb d_R_nextOf_77 (lv_at hl 1 rfl) ?_
                refine lv_goto (tgt := 83) hx hb d_R_nextOf_79 (by decide) ?_
                refine lv_istore_n (lv' := [(3, .int (mT x4_5.toNatClampNeg)), (6, .int (1 : Int32)), (5, .int (mT x4_5.toNatClampNeg)), (0, .ref b0), (1, .int y1_5), (2, .int y2_5), (4, .int x4_5)]) hx hb d_R_nextOf_83 rfl hl (by decide) rfl (fun ls hl => ?_)
                refine lv_iinc (v := x4_5 + (1 : Int32)) (lv' := [(4, .int (x4_5 + (1 : Int32))), (3, .int (mT x4_5.toNatClampNeg)), (6, .int (1 : Int32)), (5, .int (mT x4_5.toNatClampNeg)), (0, .ref b0), (1, .int y1_5), (2, .int y2_5)]) hx hb d_R_nextOf_84 hl (k := 6) rfl rfl (by decide) rfl (fun ls hl => ?_)
                refine lv_goto (tgt := 5) hx hb d_R_nextOf_87 (by decide) ?_
                exact ih (mT x4_5.toNatClampNeg) (x4_5 + (1 : Int32)) ls (lv_sub hl [4, 5, 6, 1, 0] rfl) h
              · have h := h.2 c_58
                refine lv_aload_n hx hb d_R_nextOf_61 rfl (lv_at hl 2 rfl) ?_
                refine va_get (D := (dC, dI)) (ci := 2) (v := .ref bI) (C := R_R) (T := T_R) (N := 18) hx hb hw in_R hown hK hP 0 rfl rfl 4 (by decide) (hw _ wd_620) (fun _ h9 => h9) rfl d_R_nextOf_62 ?_
                refine lv_iload hx hb d_R_nextOf_65 (lv_at hl 1 rfl) ?_
                refine va_iald hx hb hK hP 2 0 rfl rfl h.1 d_R_nextOf_67 ?_
                have h := h.2
                refine lv_aload_n hx hb d_R_nextOf_68 rfl (lv_at hl 2 rfl) ?_
                refine va_get (D := (dC, dI)) (ci := 2) (v := .ref bI) (C := R_R) (T := T_R) (N := 18) hx hb hw in_R hown hK hP 0 rfl rfl 4 (by decide) (hw _ wd_620) (fun _ h9 => h9) rfl d_R_nextOf_69 ?_
                refine lv_iload_n hx hb d_R_nextOf_72 rfl (lv_at hl 5 rfl) ?_
                refine va_iald hx hb hK hP 2 0 rfl rfl h.1 d_R_nextOf_73 ?_
                have h := h.2
                refine lv_icmp_ge (tgt := 82) hx hb d_R_nextOf_74 (by decide) (fun c_74 => ?_) (fun c_74 => ?_)
                · have h := h.1 c_74
                  refine lv_iload_n hx hb d_R_nextOf_82 rfl (lv_at hl 5 rfl) ?_
                  refine lv_istore_n (lv' := [(3, .int x3_5), (6, .int (1 : Int32)), (5, .int (mT x4_5.toNatClampNeg)), (0, .ref b0), (1, .int y1_5), (2, .int y2_5), (4, .int x4_5)]) hx hb d_R_nextOf_83 rfl hl (by decide) rfl (fun ls hl => ?_)
                  refine lv_iinc (v := x4_5 + (1 : Int32)) (lv' := [(4, .int (x4_5 + (1 : Int32))), (3, .int x3_5), (6, .int (1 : Int32)), (5, .int (mT x4_5.toNatClampNeg)), (0, .ref b0), (1, .int y1_5), (2, .int y2_5)]) hx hb d_R_nextOf_84 hl (k := 6) rfl rfl (by decide) rfl (fun ls hl => ?_)
                  refine lv_goto (tgt := 5) hx hb d_R_nextOf_87 (by decide) ?_
                  exact ih x3_5 (x4_5 + (1 : Int32)) ls (lv_sub hl [4, 5, 6, 1, 0] rfl) h
                · have h := h.2 c_74
                  refine lv_iload hx hb d_R_nextOf_77 (lv_at hl 1 rfl) ?_
                  refine lv_goto (tgt := 83) hx hb d_R_nextOf_79 (by decide) ?_
                  refine lv_istore_n (lv' := [(3, .int (mT x4_5.toNatClampNeg)), (6, .int (1 : Int32)), (5, .int (mT x4_5.toNatClampNeg)), (0, .ref b0), (1, .int y1_5), (2, .int y2_5), (4, .int x4_5)]) hx hb d_R_nextOf_83 rfl hl (by decide) rfl (fun ls hl => ?_)
                  refine lv_iinc (v := x4_5 + (1 : Int32)) (lv' := [(4, .int (x4_5 + (1 : Int32))), (3, .int (mT x4_5.toNatClampNeg)), (6, .int (1 : Int32)), (5, .int (mT x4_5.toNatClampNeg)), (0, .ref b0), (1, .int y1_5), (2, .int y2_5)]) hx hb d_R_nextOf_84 hl (k := 6) rfl rfl (by decide) rfl (fun ls hl => ?_)
                  refine lv_goto (tgt := 5) hx hb d_R_nextOf_87 (by decide) ?_
                  exact ih (mT x4_5.toNatClampNeg) (x4_5 + (1 : Int32)) ls (lv_sub hl [4, 5, 6, 1, 0] rfl) h
  unfold wqR_nextOf at h
  refine lv_iconst (v := (-1 : Int32)) hx hb d_R_nextOf_0 (by decide) ?_
  refine lv_istore_n (lv' := [(3, .int (-1 : Int32)), (0, .ref b0), (1, .int a1), (2, .int a2)]) hx hb d_R_nextOf_1 rfl hl (by decide) rfl (fun ls hl => ?_)
  refine lv_iconst (v := (0 : Int32)) hx hb d_R_nextOf_2 (by decide) ?_
  refine lv_istore (lv' := [(4, .int (0 : Int32)), (3, .int (-1 : Int32)), (0, .ref b0), (1, .int a1), (2, .int a2)]) hx hb d_R_nextOf_3 hl (by decide) rfl (fun ls hl => ?_)
  obtain ⟨n_5, h⟩ := h
  refine lp_5 a1 a2 _ (fun z3_5 z4_5 ls hl h => ?_) n_5 (-1 : Int32) (0 : Int32) ls (lv_sub hl [2, 3, 4, 1, 0] rfl) h
  refine lv_iload_n hx hb d_R_nextOf_90 rfl (lv_at hl 3 rfl) ?_
  exact W.iret (v := z3_5) hx hb hr9 (fun t ht hW => ⟨_, rfl, h, ht⟩) (fun _ h9 => nomatch h9) d_R_nextOf_91
def wqR_meet (mX : Nat → Int32) (mT : Nat → Int32) (mct : Int32) (a1 : Int32) (post : (Nat → Int32) → (Nat → Int32) → Int32 → Prop) : Prop :=
  wqR_isObject a1 (fun r1 => (r1 = 0 → (post mX mT mct)) ∧ (¬ (r1 = 0) → (wqR_placeOf a1 (fun r12 => vp_in r12 8192 ∧ (((mX r12.toNatClampNeg) = 0 → (wqR_placeOf a1 (fun r24 => vp_in r24 8192 ∧ (wqR_placeOf a1 (fun r38 => vp_in mct 8192 ∧ (post (upd mX r24.toNatClampNeg (vp_nar .boolean (1 : Int32))) (upd mT mct.toNatClampNeg r38) (mct + (1 : Int32)))))))) ∧ (¬ ((mX r12.toNatClampNeg) = 0) → (post mX mT mct)))))))
set_option maxHeartbeats 4000000 in
set_option maxRecDepth 100000 in
theorem mR_meet (l : Launch) (dC : Nat → ClassId) (dI : Nat → Nat → Nat) (cI : ClassId) (cZ : ClassId) (b0 : Nat) (bR : Nat) (bI : Nat) (bC : Nat) (bY : Nat) (bZ : Nat) (bF : Nat) (bL : Nat) (bN : Nat) (bX : Nat) (bT : Nat) (sz : Nat) (mcd : Int32) (mwd : Int32) (men : Int32) (mR : Nat → Int32) (mI : Nat → Int32) (mC : Nat → Int32) (mY : Nat → Int32) (mZ : Nat → Int32) (mF : Nat → Int32) (mmd : Int32) (mhi : Int32) (mL : Nat → Int32) (mN : Nat → Int32) (mfr : Int32) (mX : Nat → Int32) (mT : Nat → Int32) (mct : Int32) (mtk : Int32) (a1 : Int32) (post : (Nat → Int32) → (Nat → Int32) → Int32 → Prop) (h : wqR_meet mX mT mct a1 post) : Met l y_R_meet ws_R_meet ({ frames := 1, cells := 0, slots := 0, locals := 20 }) (rw_P (dC, dI) vwCl (RSw cI cZ b0 bR bI bC bY bZ bF bL bN bX bT mcd mwd men mR mI mC mY mZ mF mmd mhi mL mN mfr mX mT mct mtk) [(cI, .int), (cZ, .boolean)] sz [.ref b0, .int a1]) (va_Qv (fun u : (Nat → Int32) × (Nat → Int32) × Int32 => post u.1 u.2.1 u.2.2) (rw_B (dC, dI) vwCl [(cI, .int), (cZ, .boolean)] (va_A (RSw cI cZ b0 bR bI bC bY bZ bF bL bN bX bT mcd mwd men mR mI mC mY mZ mF mmd mhi mL mN mfr mX mT mct mtk) sz) (fun u : (Nat → Int32) × (Nat → Int32) × Int32 => RSw cI cZ b0 bR bI bC bY bZ bF bL bN bX bT mcd mwd men mR mI mC mY mZ mF mmd mhi mL mN mfr u.1 u.2.1 u.2.2 mtk)) (va_A (RSw cI cZ b0 bR bI bC bY bZ bF bL bN bX bT mcd mwd men mR mI mC mY mZ mF mmd mhi mL mN mfr mX mT mct mtk) sz)) 0 0 (va_A (RSw cI cZ b0 bR bI bC bY bZ bF bL bN bX bT mcd mwd men mR mI mC mY mZ mF mmd mhi mL mN mfr mX mT mct mtk) sz) := by
  refine Met.ofW (cc := c_R_meet) (maxL := 2) (ret := none) (by decide) rfl ?_
  intro p e s m args below meth c s₁ B hml hv
  obtain ⟨rfl, hsz, hP, hK, hD0⟩ := hv
  have hx := B.exec
  have hb := B.bytes
  have hr9 := B.returns
  have hts := atoms_spec (ws := ws_R_meet) B.pre
  have hw : ∀ w ∈ WB_, w.before _ s = true := fun w h => hts w (List.mem_cons_of_mem _ h)
  have hown : s.vm.findClass R_R = some m.cls := findClass_of_methodNamed B.named
  have hlocks := B.notSynchronized
  subst hsz
  have hD := hD0.self (sz := s.heap.size)
  generalize hAe : va_A (RSw cI cZ b0 bR bI bC bY bZ bF bL bN bX bT mcd mwd men mR mI mC mY mZ mF mmd mhi mL mN mfr mX mT mct mtk) s.heap.size = A at hD ⊢
  have hA : ∀ q : Nat, s.heap.size ≤ q → A q := fun q h => by rw [← hAe]; exact Or.inr h
  have hS : va_S A s.heap s.heap [] := va_S.rf
  have hl := lv_entry ([.ref b0, .int a1]) (n := 2) (Nat.le_of_ble_eq_true rfl)
  rw [lg_entry_eq]
  generalize (lg_sl ([.ref b0, .int a1]) ++ List.replicate (2 - (lg_sl ([.ref b0, .int a1])).length) Slot.unset).toArray = ls at hl ⊢
  have hl : lv_has ls 2 [(0, .ref b0), (1, .int a1)] := hl
  unfold wqR_meet at h
  refine lv_iload_n hx hb d_R_meet_0 rfl (lv_at hl 1 rfl) ?_
  refine rq_calli (W.runS (As := [.int a1]) (rest := []) ⟨hx, hb, hml, hown, hw⟩ (mR_isObject l a1 _ h) (va_cwS 1 hw g_R_56 rfl rfl rfl (by decide +kernel) ⟨Nat.le_of_ble_eq_true rfl, Nat.le_of_ble_eq_true rfl⟩) preEq rfl rfl hl.1 rfl (lv_room (Nat.le_of_ble_eq_true rfl)) d_R_meet_1 ⟨Nat.le_of_ble_eq_true rfl, Nat.le_of_ble_eq_true rfl⟩) (fun r1 h => ?_)
  refine lv_if_eq (tgt := 52) hx hb d_R_meet_4 (by decide) (fun c_4 => ?_) (fun c_4 => ?_)
  · have h := h.1 c_4
    exact W.vret hx hb hr9 (fun t ht hW => ⟨⟨(mX, mT, mct), rfl, h, by rw [ht]; exact hP, va_K.moved hW.alike hK, hD⟩, hS.F ht⟩) hS.2.2 d_R_meet_52
  · have h := h.2 c_4
    refine lv_aload_n hx hb d_R_meet_7 rfl (lv_at hl 0 rfl) ?_
    refine va_get (D := (dC, dI)) (ci := 2) (v := .ref bX) (C := R_R) (T := T_R) (N := 18) hx hb hw in_R hown hK hP 0 rfl rfl 14 (by decide) (hw _ wd_630) (fun _ h9 => h9) rfl d_R_meet_8 ?_
    refine lv_iload_n hx hb d_R_meet_11 rfl (lv_at hl 1 rfl) ?_
    refine rq_calli (W.runS (As := [.int a1]) (rest := [.ref bX]) ⟨hx, hb, hml, hown, hw⟩ (mR_placeOf l a1 _ h) (va_cwS 1 hw g_R_62 rfl rfl rfl (by decide +kernel) ⟨Nat.le_of_ble_eq_true rfl, Nat.le_of_ble_eq_true rfl⟩) preEq rfl rfl hl.1 rfl (lv_room (Nat.le_of_ble_eq_true rfl)) d_R_meet_12 ⟨Nat.le_of_ble_eq_true rfl, Nat.le_of_ble_eq_true rfl⟩) (fun r12 h => ?_)
    refine va_zald hx hb hK hP 9 1 rfl rfl h.1 d_R_meet_15 ?_
    have h := h.2
    refine lv_if_ne (tgt := 52) hx hb d_R_meet_16 (by decide) (fun c_16 => ?_) (fun c_16 => ?_)
    · have h := h.2 c_16
      exact W.vret hx hb hr9 (fun t ht hW => ⟨⟨(mX, mT, mct), rfl, h, by rw [ht]; exact hP, va_K.moved hW.alike hK, hD⟩, hS.F ht⟩) hS.2.2 d_R_meet_52
    · have h := h.1 c_16
      refine lv_aload_n hx hb d_R_meet_19 rfl (lv_at hl 0 rfl) ?_
      refine va_get (D := (dC, dI)) (ci := 2) (v := .ref bX) (C := R_R) (T := T_R) (N := 18) hx hb hw in_R hown hK hP 0 rfl rfl 14 (by decide) (hw _ wd_630) (fun _ h9 => h9) rfl d_R_meet_20 ?_
      refine lv_iload_n hx hb d_R_meet_23 rfl (lv_at hl 1 rfl) ?_
      refine rq_calli (W.runS (As := [.int a1]) (rest := [.ref bX]) ⟨hx, hb, hml, hown, hw⟩ (mR_placeOf l a1 _ h) (va_cwS 1 hw g_R_62 rfl rfl rfl (by decide +kernel) ⟨Nat.le_of_ble_eq_true rfl, Nat.le_of_ble_eq_true rfl⟩) preEq rfl rfl hl.1 rfl (lv_room (Nat.le_of_ble_eq_true rfl)) d_R_meet_24 ⟨Nat.le_of_ble_eq_true rfl, Nat.le_of_ble_eq_true rfl⟩) (fun r24 h => ?_)
      refine lv_iconst (v := (1 : Int32)) hx hb d_R_meet_27 (by decide) ?_
      refine va_zast hx hb hK hP hD hS 9 1 rfl rfl h.1 d_R_meet_28 (fun H locs hP hD hS => ?_)
      have hP : va_P (dC, dI) vwCl (RSw cI cZ b0 bR bI bC bY bZ bF bL bN bX bT mcd mwd men mR mI mC mY mZ mF mmd mhi mL mN mfr (upd mX r24.toNatClampNeg (vp_nar .boolean (1 : Int32))) mT mct mtk) H := hP
      have hD : va_D A (RSw cI cZ b0 bR bI bC bY bZ bF bL bN bX bT mcd mwd men mR mI mC mY mZ mF mmd mhi mL mN mfr (upd mX r24.toNatClampNeg (vp_nar .boolean (1 : Int32))) mT mct mtk) := hD
      have h := h.2
      refine lv_aload_n hx hb d_R_meet_29 rfl (lv_at hl 0 rfl) ?_
      refine va_get (D := (dC, dI)) (ci := 2) (v := .ref bT) (C := R_R) (T := T_R) (N := 18) hx hb hw in_R hown hK hP 0 rfl rfl 15 (by decide) (hw _ wd_631) (fun _ h9 => h9) rfl d_R_meet_30 ?_
      refine lv_aload_n hx hb d_R_meet_33 rfl (lv_at hl 0 rfl) ?_
      refine va_get (D := (dC, dI)) (ci := 2) (v := .int mct) (C := R_R) (T := T_R) (N := 18) hx hb hw in_R hown hK hP 0 rfl rfl 16 (by decide) (hw _ wd_632) (fun _ h9 => h9) rfl d_R_meet_34 ?_
      refine lv_iload_n hx hb d_R_meet_37 rfl (lv_at hl 1 rfl) ?_
      refine rq_calli (W.runS (As := [.int a1]) (rest := [.int mct, .ref bT]) ⟨hx, hb, hml, hown, hw⟩ (mR_placeOf l a1 _ h) (va_cwS 1 hw g_R_62 rfl rfl rfl (by decide +kernel) ⟨Nat.le_of_ble_eq_true rfl, Nat.le_of_ble_eq_true rfl⟩) preEq rfl rfl hl.1 rfl (lv_room (Nat.le_of_ble_eq_true rfl)) d_R_meet_38 ⟨Nat.le_of_ble_eq_true rfl, Nat.le_of_ble_eq_true rfl⟩) (fun r38 h => ?_)
      refine va_iast hx hb hK hP hD hS 10 0 rfl rfl h.1 d_R_meet_41 (fun H locs hP hD hS => ?_)
      have hP : va_P (dC, dI) vwCl (RSw cI cZ b0 bR bI bC bY bZ bF bL bN bX bT mcd mwd men mR mI mC mY mZ mF mmd mhi mL mN mfr (upd mX r24.toNatClampNeg (vp_nar .boolean (1 : Int32))) (upd mT mct.toNatClampNeg r38) mct mtk) H := hP
      have hD : va_D A (RSw cI cZ b0 bR bI bC bY bZ bF bL bN bX bT mcd mwd men mR mI mC mY mZ mF mmd mhi mL mN mfr (upd mX r24.toNatClampNeg (vp_nar .boolean (1 : Int32))) (upd mT mct.toNatClampNeg r38) mct mtk) := hD
      have h := h.2
      refine lv_aload_n hx hb d_R_meet_42 rfl (lv_at hl 0 rfl) ?_
      refine lv_aload_n hx hb d_R_meet_43 rfl (lv_at hl 0 rfl) ?_
      refine va_get (D := (dC, dI)) (ci := 2) (v := .int mct) (C := R_R) (T := T_R) (N := 18) hx hb hw in_R hown hK hP 0 rfl rfl 16 (by decide) (hw _ wd_632) (fun _ h9 => h9) rfl d_R_meet_44 ?_
      refine lv_iconst (v := (1 : Int32)) hx hb d_R_meet_47 (by decide) ?_
      refine lv_iadd hx hb d_R_meet_48 ?_
      refine va_put (D := (dC, dI)) (ci := 2) (v := .int (mct + (1 : Int32))) (ty := .int) (C := R_R) (T := T_R) (N := 18) hx hb hw in_R ty_R ty_R_ok nm_R hown hK hP hD hS 0 rfl rfl 16 (by decide) (hw _ wd_632) (fun _ h9 => h9) rfl (by decide +kernel) rfl rfl (Nat.le_of_ble_eq_true rfl) d_R_meet_49 (fun H locs hP hD hS => ?_)
      have hP : va_P (dC, dI) vwCl (RSw cI cZ b0 bR bI bC bY bZ bF bL bN bX bT mcd mwd men mR mI mC mY mZ mF mmd mhi mL mN mfr (upd mX r24.toNatClampNeg (vp_nar .boolean (1 : Int32))) (upd mT mct.toNatClampNeg r38) (mct + (1 : Int32)) mtk) H := hP
      have hD : va_D A (RSw cI cZ b0 bR bI bC bY bZ bF bL bN bX bT mcd mwd men mR mI mC mY mZ mF mmd mhi mL mN mfr (upd mX r24.toNatClampNeg (vp_nar .boolean (1 : Int32))) (upd mT mct.toNatClampNeg r38) (mct + (1 : Int32)) mtk) := hD
      exact W.vret hx hb hr9 (fun t ht hW => ⟨⟨(upd mX r24.toNatClampNeg (vp_nar .boolean (1 : Int32)), upd mT mct.toNatClampNeg r38, mct + (1 : Int32)), rfl, h, by rw [ht]; exact hP, va_K.moved hW.alike hK, hD⟩, hS.F ht⟩) hS.2.2 d_R_meet_52
def wqR_spread_60 (mC : Nat → Int32) (mY : Nat → Int32) (mZ : Nat → Int32) (mF : Nat → Int32) (mL : Nat → Int32) (mN : Nat → Int32) (y1_60 : Int32) (y2_60 : Int32) (mtkf_60 : Int32) (post : (Nat → Int32) → (Nat → Int32) → Int32 → Int32 → Prop) (kx : Int32 → (Nat → Int32) → (Nat → Int32) → Int32 → Prop) : Nat → Int32 → (Nat → Int32) → (Nat → Int32) → Int32 → Prop
  | 0, _, _, _, _ => False
  | n + 1, x3_60, mX_60, mT_60, mct_60 =>
    (x3_60 < 0 → (kx x3_60 mX_60 mT_60 mct_60)) ∧ (¬ (x3_60 < 0) → (vp_in y2_60 8192 ∧ (((mY y2_60.toNatClampNeg) = 0 → (vp_in x3_60 65536 ∧ (wqR_meet mX_60 mT_60 mct_60 (mL x3_60.toNatClampNeg) (fun mX_80 mT_80 mct_80 => vp_in x3_60 65536 ∧ (wqR_spread_60 mC mY mZ mF mL mN y1_60 y2_60 mtkf_60 post kx n (mN x3_60.toNatClampNeg) mX_80 mT_80 mct_80))))) ∧ (¬ ((mY y2_60.toNatClampNeg) = 0) → (kx x3_60 mX_60 mT_60 mct_60)))))
def wqR_spread_2 (mC : Nat → Int32) (mY : Nat → Int32) (mZ : Nat → Int32) (mF : Nat → Int32) (mL : Nat → Int32) (mN : Nat → Int32) (post : (Nat → Int32) → (Nat → Int32) → Int32 → Int32 → Prop) (kx : Int32 → (Nat → Int32) → (Nat → Int32) → Int32 → Int32 → Prop) : Nat → Int32 → (Nat → Int32) → (Nat → Int32) → Int32 → Int32 → Prop
  | 0, _, _, _, _, _ => False
  | n + 1, x1_2, mX_2, mT_2, mct_2, mtk_2 =>
    (mct_2 ≤ x1_2 → (kx x1_2 mX_2 mT_2 mct_2 mtk_2)) ∧ (¬ (mct_2 ≤ x1_2) → (vp_in x1_2 8192 ∧ (vp_in (mT_2 x1_2.toNatClampNeg) 8192 ∧ (wqR_meet mX_2 mT_2 mct_2 (mC (mT_2 x1_2.toNatClampNeg).toNatClampNeg) (fun mX_24 mT_24 mct_24 => vp_in (mT_2 x1_2.toNatClampNeg) 8192 ∧ (vp_in (mT_2 x1_2.toNatClampNeg) 8192 ∧ (wqR_cellsFor (mZ (mT_2 x1_2.toNatClampNeg).toNatClampNeg) (mY (mT_2 x1_2.toNatClampNeg).toNatClampNeg) (fun r46 => vp_in (mT_2 x1_2.toNatClampNeg) 8192 ∧ (∃ k_60, wqR_spread_60 mC mY mZ mF mL mN x1_2 (mT_2 x1_2.toNatClampNeg) ((mtk_2 + (4 : Int32)) + r46) post (fun z3_60 mXe_60 mTe_60 mcte_60 => wqR_spread_2 mC mY mZ mF mL mN post kx n (x1_2 + (1 : Int32)) mXe_60 mTe_60 mcte_60 ((mtk_2 + (4 : Int32)) + r46)) k_60 (mF (mT_2 x1_2.toNatClampNeg).toNatClampNeg) mX_24 mT_24 mct_24)))))))))
def wqR_spread (mC : Nat → Int32) (mY : Nat → Int32) (mZ : Nat → Int32) (mF : Nat → Int32) (mL : Nat → Int32) (mN : Nat → Int32) (mX : Nat → Int32) (mT : Nat → Int32) (mct : Int32) (mtk : Int32) (post : (Nat → Int32) → (Nat → Int32) → Int32 → Int32 → Prop) : Prop :=
  ∃ k_2, wqR_spread_2 mC mY mZ mF mL mN post (fun z1_2 mXe_2 mTe_2 mcte_2 mtke_2 => post mXe_2 mTe_2 mcte_2 mtke_2) k_2 (0 : Int32) mX mT mct mtk
set_option maxHeartbeats 4000000 in
set_option maxRecDepth 100000 in
theorem mR_spread (l : Launch) (dC : Nat → ClassId) (dI : Nat → Nat → Nat) (cI : ClassId) (cZ : ClassId) (b0 : Nat) (bR : Nat) (bI : Nat) (bC : Nat) (bY : Nat) (bZ : Nat) (bF : Nat) (bL : Nat) (bN : Nat) (bX : Nat) (bT : Nat) (sz : Nat) (mcd : Int32) (mwd : Int32) (men : Int32) (mR : Nat → Int32) (mI : Nat → Int32) (mC : Nat → Int32) (mY : Nat → Int32) (mZ : Nat → Int32) (mF : Nat → Int32) (mmd : Int32) (mhi : Int32) (mL : Nat → Int32) (mN : Nat → Int32) (mfr : Int32) (mX : Nat → Int32) (mT : Nat → Int32) (mct : Int32) (mtk : Int32) (post : (Nat → Int32) → (Nat → Int32) → Int32 → Int32 → Prop) (h : wqR_spread mC mY mZ mF mL mN mX mT mct mtk post) : Met l y_R_spread ws_R_spread ({ frames := 2, cells := 0, slots := 0, locals := 41 }) (rw_P (dC, dI) vwCl (RSw cI cZ b0 bR bI bC bY bZ bF bL bN bX bT mcd mwd men mR mI mC mY mZ mF mmd mhi mL mN mfr mX mT mct mtk) [(cI, .int), (cZ, .boolean)] sz [.ref b0]) (va_Qv (fun u : (Nat → Int32) × (Nat → Int32) × Int32 × Int32 => post u.1 u.2.1 u.2.2.1 u.2.2.2) (rw_B (dC, dI) vwCl [(cI, .int), (cZ, .boolean)] (va_A (RSw cI cZ b0 bR bI bC bY bZ bF bL bN bX bT mcd mwd men mR mI mC mY mZ mF mmd mhi mL mN mfr mX mT mct mtk) sz) (fun u : (Nat → Int32) × (Nat → Int32) × Int32 × Int32 => RSw cI cZ b0 bR bI bC bY bZ bF bL bN bX bT mcd mwd men mR mI mC mY mZ mF mmd mhi mL mN mfr u.1 u.2.1 u.2.2.1 u.2.2.2)) (va_A (RSw cI cZ b0 bR bI bC bY bZ bF bL bN bX bT mcd mwd men mR mI mC mY mZ mF mmd mhi mL mN mfr mX mT mct mtk) sz)) 0 0 (va_A (RSw cI cZ b0 bR bI bC bY bZ bF bL bN bX bT mcd mwd men mR mI mC mY mZ mF mmd mhi mL mN mfr mX mT mct mtk) sz) := by
  refine Met.ofW (cc := c_R_spread) (maxL := 4) (ret := none) (by decide) rfl ?_
  intro p e s m args below meth c s₁ B hml hv
  obtain ⟨rfl, hsz, hP, hK, hD0⟩ := hv
  have hx := B.exec
  have hb := B.bytes
  have hr9 := B.returns
  have hts := atoms_spec (ws := ws_R_spread) B.pre
  have hw : ∀ w ∈ WB_, w.before _ s = true := fun w h => hts w (List.mem_cons_of_mem _ h)
  have hown : s.vm.findClass R_R = some m.cls := findClass_of_methodNamed B.named
  have hlocks := B.notSynchronized
  subst hsz
  have hD := hD0.self (sz := s.heap.size)
  generalize hAe : va_A (RSw cI cZ b0 bR bI bC bY bZ bF bL bN bX bT mcd mwd men mR mI mC mY mZ mF mmd mhi mL mN mfr mX mT mct mtk) s.heap.size = A at hD ⊢
  have hA : ∀ q : Nat, s.heap.size ≤ q → A q := fun q h => by rw [← hAe]; exact Or.inr h
  have hS : va_S A s.heap s.heap [] := va_S.rf
  have hl := lv_entry ([.ref b0]) (n := 4) (Nat.le_of_ble_eq_true rfl)
  rw [lg_entry_eq]
  generalize (lg_sl ([.ref b0]) ++ List.replicate (4 - (lg_sl ([.ref b0])).length) Slot.unset).toArray = ls at hl ⊢
  have hl : lv_has ls 4 [(0, .ref b0)] := hl
  have lp_60 : ∀ (y1_60 : Int32) (y2_60 : Int32) (mtkf_60 : Int32) (kx : Int32 → (Nat → Int32) → (Nat → Int32) → Int32 → Prop), (∀ (z3_60 : Int32) (mXe_60 : Nat → Int32) (mTe_60 : Nat → Int32) (mcte_60 : Int32) (H : Heap) (locs : List Loc) (ls : Array Slot), va_P (dC, dI) vwCl (RSw cI cZ b0 bR bI bC bY bZ bF bL bN bX bT mcd mwd men mR mI mC mY mZ mF mmd mhi mL mN mfr mXe_60 mTe_60 mcte_60 mtkf_60) H → va_D A (RSw cI cZ b0 bR bI bC bY bZ bF bL bN bX bT mcd mwd men mR mI mC mY mZ mF mmd mhi mL mN mfr mXe_60 mTe_60 mcte_60 mtkf_60) → va_S A s.heap H locs → lv_has ls 4 [(0, .ref b0), (1, .int y1_60), (2, .int y2_60), (3, .int z3_60)] → kx z3_60 mXe_60 mTe_60 mcte_60 → W p l e (headSpec ws_R_spread ({ frames := 2, cells := 0, slots := 0, locals := 41 })).room s m ([.ref b0] : List Value).toArray below meth c H locs (0) (0) (MQ below (va_Qv (fun u : (Nat → Int32) × (Nat → Int32) × Int32 × Int32 => post u.1 u.2.1 u.2.2.1 u.2.2.2) (rw_B (dC, dI) vwCl [(cI, .int), (cZ, .boolean)] A (fun u : (Nat → Int32) × (Nat → Int32) × Int32 × Int32 => RSw cI cZ b0 bR bI bC bY bZ bF bL bN bX bT mcd mwd men mR mI mC mY mZ mF mmd mhi mL mN mfr u.1 u.2.1 u.2.2.1 u.2.2.2)) A) ([.ref b0] : List Value).toArray s 0 0 A) (F0 m 93 ls [])) → ∀ (n : Nat) (x3_60 : Int32) (mX_60 : Nat → Int32) (mT_60 : Nat → Int32) (mct_60 : Int32) (H : Heap) (locs : List Loc) (ls : Array Slot), va_P (dC, dI) vwCl (RSw cI cZ b0 bR bI bC bY bZ bF bL bN bX bT mcd mwd men mR mI mC mY mZ mF mmd mhi mL mN mfr mX_60 mT_60 mct_60 mtkf_60) H → va_D A (RSw cI cZ b0 bR bI bC bY bZ bF bL bN bX bT mcd mwd men mR mI mC mY mZ mF mmd mhi mL mN mfr mX_60 mT_60 mct_60 mtkf_60) → va_S A s.heap H locs → lv_has ls 4 [(0, .ref b0), (1, .int y1_60), (2, .int y2_60), (3, .int x3_60)] → wqR_spread_60 mC mY mZ mF mL mN y1_60 y2_60 mtkf_60 post kx n x3_60 mX_60 mT_60 mct_60 → W p l e (headSpec ws_R_spread ({ frames := 2, cells := 0, slots := 0, locals := 41 })).room s m ([.ref b0] : List Value).toArray below meth c H locs (0) (0) (MQ below (va_Qv (fun u : (Nat → Int32) × (Nat → Int32) × Int32 × Int32 => post u.1 u.2.1 u.2.2.1 u.2.2.2) (rw_B (dC, dI) vwCl [(cI, .int), (cZ, .boolean)] A (fun u : (Nat → Int32) × (Nat → Int32) × Int32 × Int32 => RSw cI cZ b0 bR bI bC bY bZ bF bL bN bX bT mcd mwd men mR mI mC mY mZ mF mmd mhi mL mN mfr u.1 u.2.1 u.2.2.1 u.2.2.2)) A) ([.ref b0] : List Value).toArray s 0 0 A) (F0 m 60 ls []) := by
    intro y1_60 y2_60 mtkf_60 kx K n
    induction n with
    | zero => intro x3_60 mX_60 mT_60 mct_60 H locs ls hP hD hS hl h; exact h.elim
    | succ n ih =>
      intro x3_60 mX_60 mT_60 mct_60 H locs ls hP hD hS hl h
      refine lv_iload_n hx hb d_R_spread_60 rfl (lv_at hl 3 rfl) ?_
      refine lv_if_lt (tgt := 93) hx hb d_R_spread_61 (by decide) (fun c_61 => ?_) (fun c_61 => ?_)
      · have h := h.1 c_61
        exact K x3_60 mX_60 mT_60 mct_60 H locs ls hP hD hS (lv_sub hl [0, 1, 2, 3] rfl) h
      · have h := h.2 c_61
        refine lv_aload_n hx hb d_R_spread_64 rfl (lv_at hl 0 rfl) ?_
        refine va_get (D := (dC, dI)) (ci := 2) (v := .ref bY) (C := R_R) (T := T_R) (N := 18) hx hb hw in_R hown hK hP 0 rfl rfl 6 (by decide) (hw _ wd_622) (fun _ h9 => h9) rfl d_R_spread_65 ?_
        refine lv_iload_n hx hb d_R_spread_68 rfl (lv_at hl 2 rfl) ?_
        refine va_zald hx hb hK hP 4 1 rfl rfl h.1 d_R_spread_69 ?_
        have h := h.2
        refine lv_if_ne (tgt := 93) hx hb d_R_spread_70 (by decide) (fun c_70 => ?_) (fun c_70 => ?_)
        · have h := h.2 c_70
          exact K x3_60 mX_60 mT_60 mct_60 H locs ls hP hD hS (lv_sub hl [0, 1, 2, 3] rfl) h
        · have h := h.1 c_70
          refine lv_aload_n hx hb d_R_spread_73 rfl (lv_at hl 0 rfl) ?_
          refine lv_aload_n hx hb d_R_spread_74 rfl (lv_at hl 0 rfl) ?_
          refine va_get (D := (dC, dI)) (ci := 2) (v := .ref bL) (C := R_R) (T := T_R) (N := 18) hx hb hw in_R hown hK hP 0 rfl rfl 11 (by decide) (hw _ wd_627) (fun _ h9 => h9) rfl d_R_spread_75 ?_
          refine lv_iload_n hx hb d_R_spread_78 rfl (lv_at hl 3 rfl) ?_
          refine va_iald hx hb hK hP 7 0 rfl rfl h.1 d_R_spread_79 ?_
          have h := h.2
          have hFc := va_free (wc := RSw cI cZ b0 bR bI bC bY bZ bF bL bN bX bT mcd mwd men mR mI mC mY mZ mF mmd mhi mL mN mfr mX_60 mT_60 mct_60 mtkf_60) hD hS hA [0, 1, 2, 3, 4, 5, 6, 7, 8, 9, 10] rfl
          refine va_callv (va_runV (As := [.int (mL x3_60.toNatClampNeg)]) (rest := []) ⟨hx, hb, hml, hown, hw⟩ (mR_meet l dC dI cI cZ b0 bR bI bC bY bZ bF bL bN bX bT H.size mcd mwd men mR mI mC mY mZ mF mmd mhi mL mN mfr mX_60 mT_60 mct_60 mtkf_60 (mL x3_60.toNatClampNeg) _ h) (cwV 1 hw g_R_69 rfl rfl rfl (by decide +kernel) ⟨Nat.le_of_ble_eq_true rfl, Nat.le_of_ble_eq_true rfl⟩) (rw_PV (ci := 2) (q0 := 0) hK hP hD rfl rfl) rfl rfl hl.1 rfl (lv_room (Nat.le_of_ble_eq_true rfl)) d_R_spread_80 ⟨Nat.le_of_ble_eq_true rfl, Nat.le_of_ble_eq_true rfl⟩) hS (fun q _ h => hFc q h) hFc (fun u t H locs ht hvm h hB hz1 hk1 hS => ?_)
          obtain ⟨mX_80, mT_80, mct_80⟩ := u
          obtain ⟨hP, hK1, hD1⟩ := hB
          rw [ht] at hP
          have hD := hD1.weaken (fun _ _ _ q => hFc _ q)
          clear hFc hD1 hK1
          try dsimp only at h
          have hP : va_P (dC, dI) vwCl (RSw cI cZ b0 bR bI bC bY bZ bF bL bN bX bT mcd mwd men mR mI mC mY mZ mF mmd mhi mL mN mfr mX_80 mT_80 mct_80 mtkf_60) H := hP
          have hD : va_D A (RSw cI cZ b0 bR bI bC bY bZ bF bL bN bX bT mcd mwd men mR mI mC mY mZ mF mmd mhi mL mN mfr mX_80 mT_80 mct_80 mtkf_60) := hD
          refine lv_aload_n hx hb d_R_spread_83 rfl (lv_at hl 0 rfl) ?_
          refine va_get (D := (dC, dI)) (ci := 2) (v := .ref bN) (C := R_R) (T := T_R) (N := 18) hx hb hw in_R hown hK hP 0 rfl rfl 12 (by decide) (hw _ wd_628) (fun _ h9 => h9) rfl d_R_spread_84 ?_
          refine lv_iload_n hx hb d_R_spread_87 rfl (lv_at hl 3 rfl) ?_
          refine va_iald hx hb hK hP 8 0 rfl rfl h.1 d_R_spread_88 ?_
          have h := h.2
          refine lv_istore_n (lv' := [(3, .int (mN x3_60.toNatClampNeg)), (0, .ref b0), (1, .int y1_60), (2, .int y2_60)]) hx hb d_R_spread_89 rfl hl (by decide) rfl (fun ls hl => ?_)
          refine lv_goto (tgt := 60) hx hb d_R_spread_90 (by decide) ?_
          exact ih (mN x3_60.toNatClampNeg) mX_80 mT_80 mct_80 H locs ls hP hD hS (lv_sub hl [1, 2, 3, 0] rfl) h
  have lp_2 : ∀ (kx : Int32 → (Nat → Int32) → (Nat → Int32) → Int32 → Int32 → Prop), (∀ (z1_2 : Int32) (mXe_2 : Nat → Int32) (mTe_2 : Nat → Int32) (mcte_2 : Int32) (mtke_2 : Int32) (H : Heap) (locs : List Loc) (ls : Array Slot), va_P (dC, dI) vwCl (RSw cI cZ b0 bR bI bC bY bZ bF bL bN bX bT mcd mwd men mR mI mC mY mZ mF mmd mhi mL mN mfr mXe_2 mTe_2 mcte_2 mtke_2) H → va_D A (RSw cI cZ b0 bR bI bC bY bZ bF bL bN bX bT mcd mwd men mR mI mC mY mZ mF mmd mhi mL mN mfr mXe_2 mTe_2 mcte_2 mtke_2) → va_S A s.heap H locs → lv_has ls 4 [(0, .ref b0), (1, .int z1_2)] → kx z1_2 mXe_2 mTe_2 mcte_2 mtke_2 → W p l e (headSpec ws_R_spread ({ frames := 2, cells := 0, slots := 0, locals := 41 })).room s m ([.ref b0] : List Value).toArray below meth c H locs (0) (0) (MQ below (va_Qv (fun u : (Nat → Int32) × (Nat → Int32) × Int32 × Int32 => post u.1 u.2.1 u.2.2.1 u.2.2.2) (rw_B (dC, dI) vwCl [(cI, .int), (cZ, .boolean)] A (fun u : (Nat → Int32) × (Nat → Int32) × Int32 × Int32 => RSw cI cZ b0 bR bI bC bY bZ bF bL bN bX bT mcd mwd men mR mI mC mY mZ mF mmd mhi mL mN mfr u.1 u.2.1 u.2.2.1 u.2.2.2)) A) ([.ref b0] : List Value).toArray s 0 0 A) (F0 m 99 ls [])) → ∀ (n : Nat) (x1_2 : Int32) (mX_2 : Nat → Int32) (mT_2 : Nat → Int32) (mct_2 : Int32) (mtk_2 : Int32) (H : Heap) (locs : List Loc) (ls : Array Slot), va_P (dC, dI) vwCl (RSw cI cZ b0 bR bI bC bY bZ bF bL bN bX bT mcd mwd men mR mI mC mY mZ mF mmd mhi mL mN mfr mX_2 mT_2 mct_2 mtk_2) H → va_D A (RSw cI cZ b0 bR bI bC bY bZ bF bL bN bX bT mcd mwd men mR mI mC mY mZ mF mmd mhi mL mN mfr mX_2 mT_2 mct_2 mtk_2) → va_S A s.heap H locs → lv_has ls 4 [(0, .ref b0), (1, .int x1_2)] → wqR_spread_2 mC mY mZ mF mL mN post kx n x1_2 mX_2 mT_2 mct_2 mtk_2 → W p l e (headSpec ws_R_spread ({ frames := 2, cells := 0, slots := 0, locals := 41 })).room s m ([.ref b0] : List Value).toArray below meth c H locs (0) (0) (MQ below (va_Qv (fun u : (Nat → Int32) × (Nat → Int32) × Int32 × Int32 => post u.1 u.2.1 u.2.2.1 u.2.2.2) (rw_B (dC, dI) vwCl [(cI, .int), (cZ, .boolean)] A (fun u : (Nat → Int32) × (Nat → Int32) × Int32 × Int32 => RSw cI cZ b0 bR bI bC bY bZ bF bL bN bX bT mcd mwd men mR mI mC mY mZ mF mmd mhi mL mN mfr u.1 u.2.1 u.2.2.1 u.2.2.2)) A) ([.ref b0] : List Value).toArray s 0 0 A) (F0 m 2 ls []) := by
    intro kx K n
    induction n with
    | zero => intro x1_2 mX_2 mT_2 mct_2 mtk_2 H locs ls hP hD hS hl h; exact h.elim
    | succ n ih =>
      intro x1_2 mX_2 mT_2 mct_2 mtk_2 H locs ls hP hD hS hl h
      refine lv_iload_n hx hb d_R_spread_2 rfl (lv_at hl 1 rfl) ?_
      refine lv_aload_n hx hb d_R_spread_3 rfl (lv_at hl 0 rfl) ?_
      refine va_get (D := (dC, dI)) (ci := 2) (v := .int mct_2) (C := R_R) (T := T_R) (N := 18) hx hb hw in_R hown hK hP 0 rfl rfl 16 (by decide) (hw _ wd_632) (fun _ h9 => h9) rfl d_R_spread_4 ?_
      refine lv_icmp_ge (tgt := 99) hx hb d_R_spread_7 (by decide) (fun c_7 => ?_) (fun c_7 => ?_)
      · have h := h.1 c_7
        exact K x1_2 mX_2 mT_2 mct_2 mtk_2 H locs ls hP hD hS (lv_sub hl [0, 1] rfl) h
      · have h := h.2 c_7
        refine lv_aload_n hx hb d_R_spread_10 rfl (lv_at hl 0 rfl) ?_
        refine va_get (D := (dC, dI)) (ci := 2) (v := .ref bT) (C := R_R) (T := T_R) (N := 18) hx hb hw in_R hown hK hP 0 rfl rfl 15 (by decide) (hw _ wd_631) (fun _ h9 => h9) rfl d_R_spread_11 ?_
        refine lv_iload_n hx hb d_R_spread_14 rfl (lv_at hl 1 rfl) ?_
        refine va_iald hx hb hK hP 10 0 rfl rfl h.1 d_R_spread_15 ?_
        have h := h.2
        refine lv_istore_n (lv' := [(2, .int (mT_2 x1_2.toNatClampNeg)), (0, .ref b0), (1, .int x1_2)]) hx hb d_R_spread_16 rfl hl (by decide) rfl (fun ls hl => ?_)
        refine lv_aload_n hx hb d_R_spread_17 rfl (lv_at hl 1 rfl) ?_
        refine lv_aload_n hx hb d_R_spread_18 rfl (lv_at hl 1 rfl) ?_
        refine va_get (D := (dC, dI)) (ci := 2) (v := .ref bC) (C := R_R) (T := T_R) (N := 18) hx hb hw in_R hown hK hP 0 rfl rfl 5 (by decide) (hw _ wd_621) (fun _ h9 => h9) rfl d_R_spread_19 ?_
        refine lv_iload_n hx hb d_R_spread_22 rfl (lv_at hl 0 rfl) ?_
        refine va_iald hx hb hK hP 3 0 rfl rfl h.1 d_R_spread_23 ?_
        have h := h.2
        have hFc := va_free (wc := RSw cI cZ b0 bR bI bC bY bZ bF bL bN bX bT mcd mwd men mR mI mC mY mZ mF mmd mhi mL mN mfr mX_2 mT_2 mct_2 mtk_2) hD hS hA [0, 1, 2, 3, 4, 5, 6, 7, 8, 9, 10] rfl
        refine va_callv (va_runV (As := [.int (mC (mT_2 x1_2.toNatClampNeg).toNatClampNeg)]) (rest := []) ⟨hx, hb, hml, hown, hw⟩ (mR_meet l dC dI cI cZ b0 bR bI bC bY bZ bF bL bN bX bT H.size mcd mwd men mR mI mC mY mZ mF mmd mhi mL mN mfr mX_2 mT_2 mct_2 mtk_2 (mC (mT_2 x1_2.toNatClampNeg).toNatClampNeg) _ h) (cwV 1 hw g_R_69 rfl rfl rfl (by decide +kernel) ⟨Nat.le_of_ble_eq_true rfl, Nat.le_of_ble_eq_true rfl⟩) (rw_PV (ci := 2) (q0 := 0) hK hP hD rfl rfl) rfl rfl hl.1 rfl (lv_room (Nat.le_of_ble_eq_true rfl)) d_R_spread_24 ⟨Nat.le_of_ble_eq_true rfl, Nat.le_of_ble_eq_true rfl⟩) hS (fun q _ h => hFc q h) hFc (fun u t H locs ht hvm h hB hz1 hk1 hS => ?_)
        obtain ⟨mX_24, mT_24, mct_24⟩ := u
        obtain ⟨hP, hK1, hD1⟩ := hB
        rw [ht] at hP
        have hD := hD1.weaken (fun _ _ _ q => hFc _ q)
        clear hFc hD1 hK1
        try dsimp only at h
        have hP : va_P (dC, dI) vwCl (RSw cI cZ b0 bR bI bC bY bZ bF bL bN bX bT mcd mwd men mR mI mC mY mZ mF mmd mhi mL mN mfr mX_24 mT_24 mct_24 mtk_2) H := hP
        have hD : va_D A (RSw cI cZ b0 bR bI bC bY bZ bF bL bN bX bT mcd mwd men mR mI mC mY mZ mF mmd mhi mL mN mfr mX_24 mT_24 mct_24 mtk_2) := hD
        refine lv_aload_n hx hb d_R_spread_27 rfl (lv_at hl 1 rfl) ?_
        refine lv_aload_n hx hb d_R_spread_28 rfl (lv_at hl 1 rfl) ?_
        refine va_get (D := (dC, dI)) (ci := 2) (v := .int mtk_2) (C := R_R) (T := T_R) (N := 18) hx hb hw in_R hown hK hP 0 rfl rfl 17 (by decide) (hw _ wd_633) (fun _ h9 => h9) rfl d_R_spread_29 ?_
        refine lv_iconst (v := (4 : Int32)) hx hb d_R_spread_32 (by decide) ?_
        refine lv_iadd hx hb d_R_spread_33 ?_
        refine lv_aload_n hx hb d_R_spread_34 rfl (lv_at hl 1 rfl) ?_
        refine va_get (D := (dC, dI)) (ci := 2) (v := .ref bZ) (C := R_R) (T := T_R) (N := 18) hx hb hw in_R hown hK hP 0 rfl rfl 7 (by decide) (hw _ wd_623) (fun _ h9 => h9) rfl d_R_spread_35 ?_
        refine lv_iload_n hx hb d_R_spread_38 rfl (lv_at hl 0 rfl) ?_
        refine va_iald hx hb hK hP 5 0 rfl rfl h.1 d_R_spread_39 ?_
        have h := h.2
        refine lv_aload_n hx hb d_R_spread_40 rfl (lv_at hl 1 rfl) ?_
        refine va_get (D := (dC, dI)) (ci := 2) (v := .ref bY) (C := R_R) (T := T_R) (N := 18) hx hb hw in_R hown hK hP 0 rfl rfl 6 (by decide) (hw _ wd_622) (fun _ h9 => h9) rfl d_R_spread_41 ?_
        refine lv_iload_n hx hb d_R_spread_44 rfl (lv_at hl 0 rfl) ?_
        refine va_zald hx hb hK hP 4 1 rfl rfl h.1 d_R_spread_45 ?_
        have h := h.2
        refine rq_calli (W.runS (As := [.int (mZ (mT_2 x1_2.toNatClampNeg).toNatClampNeg), .int (mY (mT_2 x1_2.toNatClampNeg).toNatClampNeg)]) (rest := [.int (mtk_2 + (4 : Int32)), .ref b0]) ⟨hx, hb, hml, hown, hw⟩ (mR_cellsFor l (mZ (mT_2 x1_2.toNatClampNeg).toNatClampNeg) (mY (mT_2 x1_2.toNatClampNeg).toNatClampNeg) _ h) (va_cwS 2 hw g_R_76 rfl rfl rfl (by decide +kernel) ⟨Nat.le_of_ble_eq_true rfl, Nat.le_of_ble_eq_true rfl⟩) preEq rfl rfl hl.1 rfl (lv_room (Nat.le_of_ble_eq_true rfl)) d_R_spread_46 ⟨Nat.le_of_ble_eq_true rfl, Nat.le_of_ble_eq_true rfl⟩) (fun r46 h => ?_)
        refine lv_iadd hx hb d_R_spread_49 ?_
        refine va_put (D := (dC, dI)) (ci := 2) (v := .int ((mtk_2 + (4 : Int32)) + r46)) (ty := .int) (C := R_R) (T := T_R) (N := 18) hx hb hw in_R ty_R ty_R_ok nm_R hown hK hP hD hS 0 rfl rfl 17 (by decide) (hw _ wd_633) (fun _ h9 => h9) rfl (by decide +kernel) rfl rfl (Nat.le_of_ble_eq_true rfl) d_R_spread_50 (fun H locs hP hD hS => ?_)
        have hP : va_P (dC, dI) vwCl (RSw cI cZ b0 bR bI bC bY bZ bF bL bN bX bT mcd mwd men mR mI mC mY mZ mF mmd mhi mL mN mfr mX_24 mT_24 mct_24 ((mtk_2 + (4 : Int32)) + r46)) H := hP
        have hD : va_D A (RSw cI cZ b0 bR bI bC bY bZ bF bL bN bX bT mcd mwd men mR mI mC mY mZ mF mmd mhi mL mN mfr mX_24 mT_24 mct_24 ((mtk_2 + (4 : Int32)) + r46)) := hD
        refine lv_aload_n hx hb d_R_spread_53 rfl (lv_at hl 1 rfl) ?_
        refine va_get (D := (dC, dI)) (ci := 2) (v := .ref bF) (C := R_R) (T := T_R) (N := 18) hx hb hw in_R hown hK hP 0 rfl rfl 8 (by decide) (hw _ wd_624) (fun _ h9 => h9) rfl d_R_spread_54 ?_
        refine lv_iload_n hx hb d_R_spread_57 rfl (lv_at hl 0 rfl) ?_
        refine va_iald hx hb hK hP 6 0 rfl rfl h.1 d_R_spread_58 ?_
        have h := h.2
        refine lv_istore_n (lv' := [(3, .int (mF (mT_2 x1_2.toNatClampNeg).toNatClampNeg)), (2, .int (mT_2 x1_2.toNatClampNeg)), (0, .ref b0), (1, .int x1_2)]) hx hb d_R_spread_59 rfl hl (by decide) rfl (fun ls hl => ?_)
        obtain ⟨n_60, h⟩ := h
        refine lp_60 x1_2 (mT_2 x1_2.toNatClampNeg) ((mtk_2 + (4 : Int32)) + r46) _ (fun z3_60 mXe_60 mTe_60 mcte_60 H locs ls hP hD hS hl h => ?_) n_60 (mF (mT_2 x1_2.toNatClampNeg).toNatClampNeg) mX_24 mT_24 mct_24 H locs ls hP hD hS (lv_sub hl [2, 3, 1, 0] rfl) h
        refine lv_iinc (v := x1_2 + (1 : Int32)) (lv' := [(1, .int (x1_2 + (1 : Int32))), (0, .ref b0), (2, .int (mT_2 x1_2.toNatClampNeg)), (3, .int z3_60)]) hx hb d_R_spread_93 hl (k := 1) rfl rfl (by decide) rfl (fun ls hl => ?_)
        refine lv_goto (tgt := 2) hx hb d_R_spread_96 (by decide) ?_
        exact ih (x1_2 + (1 : Int32)) mXe_60 mTe_60 mcte_60 ((mtk_2 + (4 : Int32)) + r46) H locs ls hP hD hS (lv_sub hl [1, 0] rfl) h
  unfold wqR_spread at h
  refine lv_iconst (v := (0 : Int32)) hx hb d_R_spread_0 (by decide) ?_
  refine lv_istore_n (lv' := [(1, .int (0 : Int32)), (0, .ref b0)]) hx hb d_R_spread_1 rfl hl (by decide) rfl (fun ls hl => ?_)
  obtain ⟨n_2, h⟩ := h
  refine lp_2 _ (fun z1_2 mXe_2 mTe_2 mcte_2 mtke_2 H locs ls hP hD hS hl h => ?_) n_2 (0 : Int32) mX mT mct mtk s.heap [] ls hP hD hS (lv_sub hl [1, 0] rfl) h
  exact W.vret hx hb hr9 (fun t ht hW => ⟨⟨(mXe_2, mTe_2, mcte_2, mtke_2), rfl, h, by rw [ht]; exact hP, va_K.moved hW.alike hK, hD⟩, hS.F ht⟩) hS.2.2 d_R_spread_99
def wqR_forget_2 (men : Int32) (mctf_2 : Int32) (mtkf_2 : Int32) (post : (Nat → Int32) → Int32 → Int32 → Prop) (kx : Int32 → (Nat → Int32) → Prop) : Nat → Int32 → (Nat → Int32) → Prop
  | 0, _, _ => False
  | n + 1, x1_2, mX_2 =>
    (men ≤ x1_2 → (kx x1_2 mX_2)) ∧ (¬ (men ≤ x1_2) → (vp_in x1_2 8192 ∧ (wqR_forget_2 men mctf_2 mtkf_2 post kx n (x1_2 + (1 : Int32)) (upd mX_2 x1_2.toNatClampNeg (vp_nar .boolean (0 : Int32))))))
def wqR_forget (men : Int32) (mX : Nat → Int32) (mct : Int32) (mtk : Int32) (post : (Nat → Int32) → Int32 → Int32 → Prop) : Prop :=
  ∃ k_2, wqR_forget_2 men mct mtk post (fun z1_2 mXe_2 => post mXe_2 (0 : Int32) (0 : Int32)) k_2 (0 : Int32) mX
set_option maxHeartbeats 4000000 in
set_option maxRecDepth 100000 in
theorem mR_forget (l : Launch) (dC : Nat → ClassId) (dI : Nat → Nat → Nat) (cI : ClassId) (cZ : ClassId) (b0 : Nat) (bR : Nat) (bI : Nat) (bC : Nat) (bY : Nat) (bZ : Nat) (bF : Nat) (bL : Nat) (bN : Nat) (bX : Nat) (bT : Nat) (sz : Nat) (mcd : Int32) (mwd : Int32) (men : Int32) (mR : Nat → Int32) (mI : Nat → Int32) (mC : Nat → Int32) (mY : Nat → Int32) (mZ : Nat → Int32) (mF : Nat → Int32) (mmd : Int32) (mhi : Int32) (mL : Nat → Int32) (mN : Nat → Int32) (mfr : Int32) (mX : Nat → Int32) (mT : Nat → Int32) (mct : Int32) (mtk : Int32) (post : (Nat → Int32) → Int32 → Int32 → Prop) (h : wqR_forget men mX mct mtk post) : Met l y_R_forget ws_R_forget ({ frames := 0, cells := 0, slots := 0, locals := 0 }) (rw_P (dC, dI) vwCl (RSw cI cZ b0 bR bI bC bY bZ bF bL bN bX bT mcd mwd men mR mI mC mY mZ mF mmd mhi mL mN mfr mX mT mct mtk) [(cI, .int), (cZ, .boolean)] sz [.ref b0]) (va_Qv (fun u : (Nat → Int32) × Int32 × Int32 => post u.1 u.2.1 u.2.2) (rw_B (dC, dI) vwCl [(cI, .int), (cZ, .boolean)] (va_A (RSw cI cZ b0 bR bI bC bY bZ bF bL bN bX bT mcd mwd men mR mI mC mY mZ mF mmd mhi mL mN mfr mX mT mct mtk) sz) (fun u : (Nat → Int32) × Int32 × Int32 => RSw cI cZ b0 bR bI bC bY bZ bF bL bN bX bT mcd mwd men mR mI mC mY mZ mF mmd mhi mL mN mfr u.1 mT u.2.1 u.2.2)) (va_A (RSw cI cZ b0 bR bI bC bY bZ bF bL bN bX bT mcd mwd men mR mI mC mY mZ mF mmd mhi mL mN mfr mX mT mct mtk) sz)) 0 0 (va_A (RSw cI cZ b0 bR bI bC bY bZ bF bL bN bX bT mcd mwd men mR mI mC mY mZ mF mmd mhi mL mN mfr mX mT mct mtk) sz) := by
  refine Met.ofW (cc := c_R_forget) (maxL := 2) (ret := none) (by decide) rfl ?_
  intro p e s m args below meth c s₁ B hml hv
  obtain ⟨rfl, hsz, hP, hK, hD0⟩ := hv
  have hx := B.exec
  have hb := B.bytes
  have hr9 := B.returns
  have hts := atoms_spec (ws := ws_R_forget) B.pre
  have hw : ∀ w ∈ WB_, w.before _ s = true := fun w h => hts w (List.mem_cons_of_mem _ h)
  have hown : s.vm.findClass R_R = some m.cls := findClass_of_methodNamed B.named
  have hlocks := B.notSynchronized
  subst hsz
  have hD := hD0.self (sz := s.heap.size)
  generalize hAe : va_A (RSw cI cZ b0 bR bI bC bY bZ bF bL bN bX bT mcd mwd men mR mI mC mY mZ mF mmd mhi mL mN mfr mX mT mct mtk) s.heap.size = A at hD ⊢
  have hA : ∀ q : Nat, s.heap.size ≤ q → A q := fun q h => by rw [← hAe]; exact Or.inr h
  have hS : va_S A s.heap s.heap [] := va_S.rf
  have hl := lv_entry ([.ref b0]) (n := 2) (Nat.le_of_ble_eq_true rfl)
  rw [lg_entry_eq]
  generalize (lg_sl ([.ref b0]) ++ List.replicate (2 - (lg_sl ([.ref b0])).length) Slot.unset).toArray = ls at hl ⊢
  have hl : lv_has ls 2 [(0, .ref b0)] := hl
  have lp_2 : ∀ (mctf_2 : Int32) (mtkf_2 : Int32) (kx : Int32 → (Nat → Int32) → Prop), (∀ (z1_2 : Int32) (mXe_2 : Nat → Int32) (H : Heap) (locs : List Loc) (ls : Array Slot), va_P (dC, dI) vwCl (RSw cI cZ b0 bR bI bC bY bZ bF bL bN bX bT mcd mwd men mR mI mC mY mZ mF mmd mhi mL mN mfr mXe_2 mT mctf_2 mtkf_2) H → va_D A (RSw cI cZ b0 bR bI bC bY bZ bF bL bN bX bT mcd mwd men mR mI mC mY mZ mF mmd mhi mL mN mfr mXe_2 mT mctf_2 mtkf_2) → va_S A s.heap H locs → lv_has ls 2 [(0, .ref b0), (1, .int z1_2)] → kx z1_2 mXe_2 → W p l e (headSpec ws_R_forget ({ frames := 0, cells := 0, slots := 0, locals := 0 })).room s m ([.ref b0] : List Value).toArray below meth c H locs (0) (0) (MQ below (va_Qv (fun u : (Nat → Int32) × Int32 × Int32 => post u.1 u.2.1 u.2.2) (rw_B (dC, dI) vwCl [(cI, .int), (cZ, .boolean)] A (fun u : (Nat → Int32) × Int32 × Int32 => RSw cI cZ b0 bR bI bC bY bZ bF bL bN bX bT mcd mwd men mR mI mC mY mZ mF mmd mhi mL mN mfr u.1 mT u.2.1 u.2.2)) A) ([.ref b0] : List Value).toArray s 0 0 A) (F0 m 23 ls [])) → ∀ (n : Nat) (x1_2 : Int32) (mX_2 : Nat → Int32) (H : Heap) (locs : List Loc) (ls : Array Slot), va_P (dC, dI) vwCl (RSw cI cZ b0 bR bI bC bY bZ bF bL bN bX bT mcd mwd men mR mI mC mY mZ mF mmd mhi mL mN mfr mX_2 mT mctf_2 mtkf_2) H → va_D A (RSw cI cZ b0 bR bI bC bY bZ bF bL bN bX bT mcd mwd men mR mI mC mY mZ mF mmd mhi mL mN mfr mX_2 mT mctf_2 mtkf_2) → va_S A s.heap H locs → lv_has ls 2 [(0, .ref b0), (1, .int x1_2)] → wqR_forget_2 men mctf_2 mtkf_2 post kx n x1_2 mX_2 → W p l e (headSpec ws_R_forget ({ frames := 0, cells := 0, slots := 0, locals := 0 })).room s m ([.ref b0] : List Value).toArray below meth c H locs (0) (0) (MQ below (va_Qv (fun u : (Nat → Int32) × Int32 × Int32 => post u.1 u.2.1 u.2.2) (rw_B (dC, dI) vwCl [(cI, .int), (cZ, .boolean)] A (fun u : (Nat → Int32) × Int32 × Int32 => RSw cI cZ b0 bR bI bC bY bZ bF bL bN bX bT mcd mwd men mR mI mC mY mZ mF mmd mhi mL mN mfr u.1 mT u.2.1 u.2.2)) A) ([.ref b0] : List Value).toArray s 0 0 A) (F0 m 2 ls []) := by
    intro mctf_2 mtkf_2 kx K n
    induction n with
    | zero => intro x1_2 mX_2 H locs ls hP hD hS hl h; exact h.elim
    | succ n ih =>
      intro x1_2 mX_2 H locs ls hP hD hS hl h
      refine lv_iload_n hx hb d_R_forget_2 rfl (lv_at hl 1 rfl) ?_
      refine lv_aload_n hx hb d_R_forget_3 rfl (lv_at hl 0 rfl) ?_
      refine va_get (D := (dC, dI)) (ci := 2) (v := .int men) (C := R_R) (T := T_R) (N := 18) hx hb hw in_R hown hK hP 0 rfl rfl 2 (by decide) (hw _ wd_618) (fun _ h9 => h9) rfl d_R_forget_4 ?_
      refine lv_icmp_ge (tgt := 23) hx hb d_R_forget_7 (by decide) (fun c_7 => ?_) (fun c_7 => ?_)
      · have h := h.1 c_7
        exact K x1_2 mX_2 H locs ls hP hD hS (lv_sub hl [0, 1] rfl) h
      · have h := h.2 c_7
        refine lv_aload_n hx hb d_R_forget_10 rfl (lv_at hl 0 rfl) ?_
        refine va_get (D := (dC, dI)) (ci := 2) (v := .ref bX) (C := R_R) (T := T_R) (N := 18) hx hb hw in_R hown hK hP 0 rfl rfl 14 (by decide) (hw _ wd_630) (fun _ h9 => h9) rfl d_R_forget_11 ?_
        refine lv_iload_n hx hb d_R_forget_14 rfl (lv_at hl 1 rfl) ?_
        refine lv_iconst (v := (0 : Int32)) hx hb d_R_forget_15 (by decide) ?_
        refine va_zast hx hb hK hP hD hS 9 1 rfl rfl h.1 d_R_forget_16 (fun H locs hP hD hS => ?_)
        have hP : va_P (dC, dI) vwCl (RSw cI cZ b0 bR bI bC bY bZ bF bL bN bX bT mcd mwd men mR mI mC mY mZ mF mmd mhi mL mN mfr (upd mX_2 x1_2.toNatClampNeg (vp_nar .boolean (0 : Int32))) mT mctf_2 mtkf_2) H := hP
        have hD : va_D A (RSw cI cZ b0 bR bI bC bY bZ bF bL bN bX bT mcd mwd men mR mI mC mY mZ mF mmd mhi mL mN mfr (upd mX_2 x1_2.toNatClampNeg (vp_nar .boolean (0 : Int32))) mT mctf_2 mtkf_2) := hD
        have h := h.2
        refine lv_iinc (v := x1_2 + (1 : Int32)) (lv' := [(1, .int (x1_2 + (1 : Int32))), (0, .ref b0)]) hx hb d_R_forget_17 hl (k := 1) rfl rfl (by decide) rfl (fun ls hl => ?_)
        refine lv_goto (tgt := 2) hx hb d_R_forget_20 (by decide) ?_
        exact ih (x1_2 + (1 : Int32)) (upd mX_2 x1_2.toNatClampNeg (vp_nar .boolean (0 : Int32))) H locs ls hP hD hS (lv_sub hl [1, 0] rfl) h
  unfold wqR_forget at h
  refine lv_iconst (v := (0 : Int32)) hx hb d_R_forget_0 (by decide) ?_
  refine lv_istore_n (lv' := [(1, .int (0 : Int32)), (0, .ref b0)]) hx hb d_R_forget_1 rfl hl (by decide) rfl (fun ls hl => ?_)
  obtain ⟨n_2, h⟩ := h
  refine lp_2 mct mtk _ (fun z1_2 mXe_2 H locs ls hP hD hS hl h => ?_) n_2 (0 : Int32) mX s.heap [] ls hP hD hS (lv_sub hl [1, 0] rfl) h
  refine lv_aload_n hx hb d_R_forget_23 rfl (lv_at hl 0 rfl) ?_
  refine lv_iconst (v := (0 : Int32)) hx hb d_R_forget_24 (by decide) ?_
  refine va_put (D := (dC, dI)) (ci := 2) (v := .int (0 : Int32)) (ty := .int) (C := R_R) (T := T_R) (N := 18) hx hb hw in_R ty_R ty_R_ok nm_R hown hK hP hD hS 0 rfl rfl 16 (by decide) (hw _ wd_632) (fun _ h9 => h9) rfl (by decide +kernel) rfl rfl (Nat.le_of_ble_eq_true rfl) d_R_forget_25 (fun H locs hP hD hS => ?_)
  have hP : va_P (dC, dI) vwCl (RSw cI cZ b0 bR bI bC bY bZ bF bL bN bX bT mcd mwd men mR mI mC mY mZ mF mmd mhi mL mN mfr mXe_2 mT (0 : Int32) mtk) H := hP
  have hD : va_D A (RSw cI cZ b0 bR bI bC bY bZ bF bL bN bX bT mcd mwd men mR mI mC mY mZ mF mmd mhi mL mN mfr mXe_2 mT (0 : Int32) mtk) := hD
  refine lv_aload_n hx hb d_R_forget_28 rfl (lv_at hl 0 rfl) ?_
  refine lv_iconst (v := (0 : Int32)) hx hb d_R_forget_29 (by decide) ?_
  refine va_put (D := (dC, dI)) (ci := 2) (v := .int (0 : Int32)) (ty := .int) (C := R_R) (T := T_R) (N := 18) hx hb hw in_R ty_R ty_R_ok nm_R hown hK hP hD hS 0 rfl rfl 17 (by decide) (hw _ wd_633) (fun _ h9 => h9) rfl (by decide +kernel) rfl rfl (Nat.le_of_ble_eq_true rfl) d_R_forget_30 (fun H locs hP hD hS => ?_)
  have hP : va_P (dC, dI) vwCl (RSw cI cZ b0 bR bI bC bY bZ bF bL bN bX bT mcd mwd men mR mI mC mY mZ mF mmd mhi mL mN mfr mXe_2 mT (0 : Int32) (0 : Int32)) H := hP
  have hD : va_D A (RSw cI cZ b0 bR bI bC bY bZ bF bL bN bX bT mcd mwd men mR mI mC mY mZ mF mmd mhi mL mN mfr mXe_2 mT (0 : Int32) (0 : Int32)) := hD
  exact W.vret hx hb hr9 (fun t ht hW => ⟨⟨(mXe_2, (0 : Int32), (0 : Int32)), rfl, h, by rw [ht]; exact hP, va_K.moved hW.alike hK, hD⟩, hS.F ht⟩) hS.2.2 d_R_forget_33
def wqR_reach_6 (men : Int32) (mR : Nat → Int32) (mC : Nat → Int32) (mY : Nat → Int32) (mZ : Nat → Int32) (mF : Nat → Int32) (mL : Nat → Int32) (mN : Nat → Int32) (mtkf_6 : Int32) (post : (Nat → Int32) → (Nat → Int32) → Int32 → Int32 → Prop) (kx : Int32 → (Nat → Int32) → (Nat → Int32) → Int32 → Prop) : Nat → Int32 → (Nat → Int32) → (Nat → Int32) → Int32 → Prop
  | 0, _, _, _, _ => False
  | n + 1, x1_6, mX_6, mT_6, mct_6 =>
    ((32 : Int32) ≤ x1_6 → (kx x1_6 mX_6 mT_6 mct_6)) ∧ (¬ ((32 : Int32) ≤ x1_6) → (vp_in x1_6 32 ∧ (wqR_meet mX_6 mT_6 mct_6 (mR x1_6.toNatClampNeg) (fun mX_19 mT_19 mct_19 => wqR_reach_6 men mR mC mY mZ mF mL mN mtkf_6 post kx n (x1_6 + (1 : Int32)) mX_19 mT_19 mct_19))))
def wqR_reach (men : Int32) (mR : Nat → Int32) (mC : Nat → Int32) (mY : Nat → Int32) (mZ : Nat → Int32) (mF : Nat → Int32) (mL : Nat → Int32) (mN : Nat → Int32) (mX : Nat → Int32) (mT : Nat → Int32) (mct : Int32) (mtk : Int32) (post : (Nat → Int32) → (Nat → Int32) → Int32 → Int32 → Prop) : Prop :=
  wqR_forget men mX mct mtk (fun mX_1 mct_1 mtk_1 => ∃ k_6, wqR_reach_6 men mR mC mY mZ mF mL mN mtk_1 post (fun z1_6 mXe_6 mTe_6 mcte_6 => wqR_spread mC mY mZ mF mL mN mXe_6 mTe_6 mcte_6 mtk_1 (fun mX_29 mT_29 mct_29 mtk_29 => post mX_29 mT_29 mct_29 mtk_29)) k_6 (0 : Int32) mX_1 mT mct_1)
set_option maxHeartbeats 4000000 in
set_option maxRecDepth 100000 in
theorem mR_reach (l : Launch) (dC : Nat → ClassId) (dI : Nat → Nat → Nat) (cI : ClassId) (cZ : ClassId) (b0 : Nat) (bR : Nat) (bI : Nat) (bC : Nat) (bY : Nat) (bZ : Nat) (bF : Nat) (bL : Nat) (bN : Nat) (bX : Nat) (bT : Nat) (sz : Nat) (mcd : Int32) (mwd : Int32) (men : Int32) (mR : Nat → Int32) (mI : Nat → Int32) (mC : Nat → Int32) (mY : Nat → Int32) (mZ : Nat → Int32) (mF : Nat → Int32) (mmd : Int32) (mhi : Int32) (mL : Nat → Int32) (mN : Nat → Int32) (mfr : Int32) (mX : Nat → Int32) (mT : Nat → Int32) (mct : Int32) (mtk : Int32) (post : (Nat → Int32) → (Nat → Int32) → Int32 → Int32 → Prop) (h : wqR_reach men mR mC mY mZ mF mL mN mX mT mct mtk post) : Met l y_R_reach ws_R_reach ({ frames := 3, cells := 0, slots := 0, locals := 64 }) (rw_P (dC, dI) vwCl (RSw cI cZ b0 bR bI bC bY bZ bF bL bN bX bT mcd mwd men mR mI mC mY mZ mF mmd mhi mL mN mfr mX mT mct mtk) [(cI, .int), (cZ, .boolean)] sz [.ref b0]) (va_Qv (fun u : (Nat → Int32) × (Nat → Int32) × Int32 × Int32 => post u.1 u.2.1 u.2.2.1 u.2.2.2) (rw_B (dC, dI) vwCl [(cI, .int), (cZ, .boolean)] (va_A (RSw cI cZ b0 bR bI bC bY bZ bF bL bN bX bT mcd mwd men mR mI mC mY mZ mF mmd mhi mL mN mfr mX mT mct mtk) sz) (fun u : (Nat → Int32) × (Nat → Int32) × Int32 × Int32 => RSw cI cZ b0 bR bI bC bY bZ bF bL bN bX bT mcd mwd men mR mI mC mY mZ mF mmd mhi mL mN mfr u.1 u.2.1 u.2.2.1 u.2.2.2)) (va_A (RSw cI cZ b0 bR bI bC bY bZ bF bL bN bX bT mcd mwd men mR mI mC mY mZ mF mmd mhi mL mN mfr mX mT mct mtk) sz)) 0 0 (va_A (RSw cI cZ b0 bR bI bC bY bZ bF bL bN bX bT mcd mwd men mR mI mC mY mZ mF mmd mhi mL mN mfr mX mT mct mtk) sz) := by
  refine Met.ofW (cc := c_R_reach) (maxL := 2) (ret := none) (by decide) rfl ?_
  intro p e s m args below meth c s₁ B hml hv
  obtain ⟨rfl, hsz, hP, hK, hD0⟩ := hv
  have hx := B.exec
  have hb := B.bytes
  have hr9 := B.returns
  have hts := atoms_spec (ws := ws_R_reach) B.pre
  have hw : ∀ w ∈ WB_, w.before _ s = true := fun w h => hts w (List.mem_cons_of_mem _ h)
  have hown : s.vm.findClass R_R = some m.cls := findClass_of_methodNamed B.named
  have hlocks := B.notSynchronized
  subst hsz
  have hD := hD0.self (sz := s.heap.size)
  generalize hAe : va_A (RSw cI cZ b0 bR bI bC bY bZ bF bL bN bX bT mcd mwd men mR mI mC mY mZ mF mmd mhi mL mN mfr mX mT mct mtk) s.heap.size = A at hD ⊢
  have hA : ∀ q : Nat, s.heap.size ≤ q → A q := fun q h => by rw [← hAe]; exact Or.inr h
  have hS : va_S A s.heap s.heap [] := va_S.rf
  have hl := lv_entry ([.ref b0]) (n := 2) (Nat.le_of_ble_eq_true rfl)
  rw [lg_entry_eq]
  generalize (lg_sl ([.ref b0]) ++ List.replicate (2 - (lg_sl ([.ref b0])).length) Slot.unset).toArray = ls at hl ⊢
  have hl : lv_has ls 2 [(0, .ref b0)] := hl
  have lp_6 : ∀ (mtkf_6 : Int32) (kx : Int32 → (Nat → Int32) → (Nat → Int32) → Int32 → Prop), (∀ (z1_6 : Int32) (mXe_6 : Nat → Int32) (mTe_6 : Nat → Int32) (mcte_6 : Int32) (H : Heap) (locs : List Loc) (ls : Array Slot), va_P (dC, dI) vwCl (RSw cI cZ b0 bR bI bC bY bZ bF bL bN bX bT mcd mwd men mR mI mC mY mZ mF mmd mhi mL mN mfr mXe_6 mTe_6 mcte_6 mtkf_6) H → va_D A (RSw cI cZ b0 bR bI bC bY bZ bF bL bN bX bT mcd mwd men mR mI mC mY mZ mF mmd mhi mL mN mfr mXe_6 mTe_6 mcte_6 mtkf_6) → va_S A s.heap H locs → lv_has ls 2 [(0, .ref b0), (1, .int z1_6)] → kx z1_6 mXe_6 mTe_6 mcte_6 → W p l e (headSpec ws_R_reach ({ frames := 3, cells := 0, slots := 0, locals := 64 })).room s m ([.ref b0] : List Value).toArray below meth c H locs (0) (0) (MQ below (va_Qv (fun u : (Nat → Int32) × (Nat → Int32) × Int32 × Int32 => post u.1 u.2.1 u.2.2.1 u.2.2.2) (rw_B (dC, dI) vwCl [(cI, .int), (cZ, .boolean)] A (fun u : (Nat → Int32) × (Nat → Int32) × Int32 × Int32 => RSw cI cZ b0 bR bI bC bY bZ bF bL bN bX bT mcd mwd men mR mI mC mY mZ mF mmd mhi mL mN mfr u.1 u.2.1 u.2.2.1 u.2.2.2)) A) ([.ref b0] : List Value).toArray s 0 0 A) (F0 m 28 ls [])) → ∀ (n : Nat) (x1_6 : Int32) (mX_6 : Nat → Int32) (mT_6 : Nat → Int32) (mct_6 : Int32) (H : Heap) (locs : List Loc) (ls : Array Slot), va_P (dC, dI) vwCl (RSw cI cZ b0 bR bI bC bY bZ bF bL bN bX bT mcd mwd men mR mI mC mY mZ mF mmd mhi mL mN mfr mX_6 mT_6 mct_6 mtkf_6) H → va_D A (RSw cI cZ b0 bR bI bC bY bZ bF bL bN bX bT mcd mwd men mR mI mC mY mZ mF mmd mhi mL mN mfr mX_6 mT_6 mct_6 mtkf_6) → va_S A s.heap H locs → lv_has ls 2 [(0, .ref b0), (1, .int x1_6)] → wqR_reach_6 men mR mC mY mZ mF mL mN mtkf_6 post kx n x1_6 mX_6 mT_6 mct_6 → W p l e (headSpec ws_R_reach ({ frames := 3, cells := 0, slots := 0, locals := 64 })).room s m ([.ref b0] : List Value).toArray below meth c H locs (0) (0) (MQ below (va_Qv (fun u : (Nat → Int32) × (Nat → Int32) × Int32 × Int32 => post u.1 u.2.1 u.2.2.1 u.2.2.2) (rw_B (dC, dI) vwCl [(cI, .int), (cZ, .boolean)] A (fun u : (Nat → Int32) × (Nat → Int32) × Int32 × Int32 => RSw cI cZ b0 bR bI bC bY bZ bF bL bN bX bT mcd mwd men mR mI mC mY mZ mF mmd mhi mL mN mfr u.1 u.2.1 u.2.2.1 u.2.2.2)) A) ([.ref b0] : List Value).toArray s 0 0 A) (F0 m 6 ls []) := by
    intro mtkf_6 kx K n
    induction n with
    | zero => intro x1_6 mX_6 mT_6 mct_6 H locs ls hP hD hS hl h; exact h.elim
    | succ n ih =>
      intro x1_6 mX_6 mT_6 mct_6 H locs ls hP hD hS hl h
      refine lv_iload_n hx hb d_R_reach_6 rfl (lv_at hl 1 rfl) ?_
      refine lv_bipush (v := (32 : Int32)) hx hb d_R_reach_7 (by decide) ?_
      refine lv_icmp_ge (tgt := 28) hx hb d_R_reach_9 (by decide) (fun c_9 => ?_) (fun c_9 => ?_)
      · have h := h.1 c_9
        exact K x1_6 mX_6 mT_6 mct_6 H locs ls hP hD hS (lv_sub hl [0, 1] rfl) h
      · have h := h.2 c_9
        refine lv_aload_n hx hb d_R_reach_12 rfl (lv_at hl 0 rfl) ?_
        refine lv_aload_n hx hb d_R_reach_13 rfl (lv_at hl 0 rfl) ?_
        refine va_get (D := (dC, dI)) (ci := 2) (v := .ref bR) (C := R_R) (T := T_R) (N := 18) hx hb hw in_R hown hK hP 0 rfl rfl 3 (by decide) (hw _ wd_619) (fun _ h9 => h9) rfl d_R_reach_14 ?_
        refine lv_iload_n hx hb d_R_reach_17 rfl (lv_at hl 1 rfl) ?_
        refine va_iald hx hb hK hP 1 0 rfl rfl h.1 d_R_reach_18 ?_
        have h := h.2
        have hFc := va_free (wc := RSw cI cZ b0 bR bI bC bY bZ bF bL bN bX bT mcd mwd men mR mI mC mY mZ mF mmd mhi mL mN mfr mX_6 mT_6 mct_6 mtkf_6) hD hS hA [0, 1, 2, 3, 4, 5, 6, 7, 8, 9, 10] rfl
        refine va_callv (va_runV (As := [.int (mR x1_6.toNatClampNeg)]) (rest := []) ⟨hx, hb, hml, hown, hw⟩ (mR_meet l dC dI cI cZ b0 bR bI bC bY bZ bF bL bN bX bT H.size mcd mwd men mR mI mC mY mZ mF mmd mhi mL mN mfr mX_6 mT_6 mct_6 mtkf_6 (mR x1_6.toNatClampNeg) _ h) (cwV 1 hw g_R_69 rfl rfl rfl (by decide +kernel) ⟨Nat.le_of_ble_eq_true rfl, Nat.le_of_ble_eq_true rfl⟩) (rw_PV (ci := 2) (q0 := 0) hK hP hD rfl rfl) rfl rfl hl.1 rfl (lv_room (Nat.le_of_ble_eq_true rfl)) d_R_reach_19 ⟨Nat.le_of_ble_eq_true rfl, Nat.le_of_ble_eq_true rfl⟩) hS (fun q _ h => hFc q h) hFc (fun u t H locs ht hvm h hB hz1 hk1 hS => ?_)
        obtain ⟨mX_19, mT_19, mct_19⟩ := u
        obtain ⟨hP, hK1, hD1⟩ := hB
        rw [ht] at hP
        have hD := hD1.weaken (fun _ _ _ q => hFc _ q)
        clear hFc hD1 hK1
        try dsimp only at h
        have hP : va_P (dC, dI) vwCl (RSw cI cZ b0 bR bI bC bY bZ bF bL bN bX bT mcd mwd men mR mI mC mY mZ mF mmd mhi mL mN mfr mX_19 mT_19 mct_19 mtkf_6) H := hP
        have hD : va_D A (RSw cI cZ b0 bR bI bC bY bZ bF bL bN bX bT mcd mwd men mR mI mC mY mZ mF mmd mhi mL mN mfr mX_19 mT_19 mct_19 mtkf_6) := hD
        refine lv_iinc (v := x1_6 + (1 : Int32)) (lv' := [(1, .int (x1_6 + (1 : Int32))), (0, .ref b0)]) hx hb d_R_reach_22 hl (k := 1) rfl rfl (by decide) rfl (fun ls hl => ?_)
        refine lv_goto (tgt := 6) hx hb d_R_reach_25 (by decide) ?_
        exact ih (x1_6 + (1 : Int32)) mX_19 mT_19 mct_19 H locs ls hP hD hS (lv_sub hl [1, 0] rfl) h
  unfold wqR_reach at h
  refine lv_aload_n hx hb d_R_reach_0 rfl (lv_at hl 0 rfl) ?_
  have hFc := va_free (wc := RSw cI cZ b0 bR bI bC bY bZ bF bL bN bX bT mcd mwd men mR mI mC mY mZ mF mmd mhi mL mN mfr mX mT mct mtk) hD hS hA [0, 1, 2, 3, 4, 5, 6, 7, 8, 9, 10] rfl
  refine va_callv (va_runV (As := []) (rest := []) ⟨hx, hb, hml, hown, hw⟩ (mR_forget l dC dI cI cZ b0 bR bI bC bY bZ bF bL bN bX bT s.heap.size mcd mwd men mR mI mC mY mZ mF mmd mhi mL mN mfr mX mT mct mtk _ h) (cwV 0 hw g_R_80 rfl rfl rfl (by decide +kernel) ⟨Nat.le_of_ble_eq_true rfl, Nat.le_of_ble_eq_true rfl⟩) (rw_PV (ci := 2) (q0 := 0) hK hP hD rfl rfl) rfl rfl hl.1 rfl (lv_room (Nat.le_of_ble_eq_true rfl)) d_R_reach_1 ⟨Nat.le_of_ble_eq_true rfl, Nat.le_of_ble_eq_true rfl⟩) hS (fun q _ h => hFc q h) hFc (fun u t H locs ht hvm h hB hz1 hk1 hS => ?_)
  obtain ⟨mX_1, mct_1, mtk_1⟩ := u
  obtain ⟨hP, hK1, hD1⟩ := hB
  rw [ht] at hP
  have hD := hD1.weaken (fun _ _ _ q => hFc _ q)
  clear hFc hD1 hK1
  try dsimp only at h
  have hP : va_P (dC, dI) vwCl (RSw cI cZ b0 bR bI bC bY bZ bF bL bN bX bT mcd mwd men mR mI mC mY mZ mF mmd mhi mL mN mfr mX_1 mT mct_1 mtk_1) H := hP
  have hD : va_D A (RSw cI cZ b0 bR bI bC bY bZ bF bL bN bX bT mcd mwd men mR mI mC mY mZ mF mmd mhi mL mN mfr mX_1 mT mct_1 mtk_1) := hD
  refine lv_iconst (v := (0 : Int32)) hx hb d_R_reach_4 (by decide) ?_
  refine lv_istore_n (lv' := [(1, .int (0 : Int32)), (0, .ref b0)]) hx hb d_R_reach_5 rfl hl (by decide) rfl (fun ls hl => ?_)
  obtain ⟨n_6, h⟩ := h
  refine lp_6 mtk_1 _ (fun z1_6 mXe_6 mTe_6 mcte_6 H locs ls hP hD hS hl h => ?_) n_6 (0 : Int32) mX_1 mT mct_1 H locs ls hP hD hS (lv_sub hl [1, 0] rfl) h
  refine lv_aload_n hx hb d_R_reach_28 rfl (lv_at hl 0 rfl) ?_
  have hFc := va_free (wc := RSw cI cZ b0 bR bI bC bY bZ bF bL bN bX bT mcd mwd men mR mI mC mY mZ mF mmd mhi mL mN mfr mXe_6 mTe_6 mcte_6 mtk_1) hD hS hA [0, 1, 2, 3, 4, 5, 6, 7, 8, 9, 10] rfl
  refine va_callv (va_runV (As := []) (rest := []) ⟨hx, hb, hml, hown, hw⟩ (mR_spread l dC dI cI cZ b0 bR bI bC bY bZ bF bL bN bX bT H.size mcd mwd men mR mI mC mY mZ mF mmd mhi mL mN mfr mXe_6 mTe_6 mcte_6 mtk_1 _ h) (cwV 0 hw g_R_83 rfl rfl rfl (by decide +kernel) ⟨Nat.le_of_ble_eq_true rfl, Nat.le_of_ble_eq_true rfl⟩) (rw_PV (ci := 2) (q0 := 0) hK hP hD rfl rfl) rfl rfl hl.1 rfl (lv_room (Nat.le_of_ble_eq_true rfl)) d_R_reach_29 ⟨Nat.le_of_ble_eq_true rfl, Nat.le_of_ble_eq_true rfl⟩) hS (fun q _ h => hFc q h) hFc (fun u t H locs ht hvm h hB hz1 hk1 hS => ?_)
  obtain ⟨mX_29, mT_29, mct_29, mtk_29⟩ := u
  obtain ⟨hP, hK1, hD1⟩ := hB
  rw [ht] at hP
  have hD := hD1.weaken (fun _ _ _ q => hFc _ q)
  clear hFc hD1 hK1
  try dsimp only at h
  have hP : va_P (dC, dI) vwCl (RSw cI cZ b0 bR bI bC bY bZ bF bL bN bX bT mcd mwd men mR mI mC mY mZ mF mmd mhi mL mN mfr mX_29 mT_29 mct_29 mtk_29) H := hP
  have hD : va_D A (RSw cI cZ b0 bR bI bC bY bZ bF bL bN bX bT mcd mwd men mR mI mC mY mZ mF mmd mhi mL mN mfr mX_29 mT_29 mct_29 mtk_29) := hD
  exact W.vret hx hb hr9 (fun t ht hW => ⟨⟨(mX_29, mT_29, mct_29, mtk_29), rfl, h, by rw [ht]; exact hP, va_K.moved hW.alike hK, hD⟩, hS.F ht⟩) hS.2.2 d_R_reach_32
def wqR_giveBack_47 (men : Int32) (mF : Nat → Int32) (mX : Nat → Int32) (y1_47 : Int32) (mIf_47 : Nat → Int32) (mhif_47 : Int32) (post : (Nat → Int32) → Int32 → (Nat → Int32) → Int32 → Prop) (kx : Int32 → (Nat → Int32) → Int32 → Prop) : Nat → Int32 → (Nat → Int32) → Int32 → Prop
  | 0, _, _, _ => False
  | n + 1, x2_47, mN_47, mfr_47 =>
    (x2_47 < 0 → (kx x2_47 mN_47 mfr_47)) ∧ (¬ (x2_47 < 0) → (vp_in x2_47 65536 ∧ (vp_in x2_47 65536 ∧ (wqR_giveBack_47 men mF mX y1_47 mIf_47 mhif_47 post kx n (mN_47 x2_47.toNatClampNeg) (upd mN_47 x2_47.toNatClampNeg mfr_47) x2_47))))
def wqR_giveBack_7 (men : Int32) (mF : Nat → Int32) (mX : Nat → Int32) (mhif_7 : Int32) (post : (Nat → Int32) → Int32 → (Nat → Int32) → Int32 → Prop) (kx : Int32 → (Nat → Int32) → (Nat → Int32) → Int32 → Prop) : Nat → Int32 → (Nat → Int32) → (Nat → Int32) → Int32 → Prop
  | 0, _, _, _, _ => False
  | n + 1, x1_7, mI_7, mN_7, mfr_7 =>
    (men ≤ x1_7 → (kx x1_7 mI_7 mN_7 mfr_7)) ∧ (¬ (men ≤ x1_7) → (vp_in x1_7 8192 ∧ (((mI_7 x1_7.toNatClampNeg) ≤ 0 → (wqR_giveBack_7 men mF mX mhif_7 post kx n (x1_7 + (1 : Int32)) mI_7 mN_7 mfr_7)) ∧ (¬ ((mI_7 x1_7.toNatClampNeg) ≤ 0) → (vp_in x1_7 8192 ∧ (((mX x1_7.toNatClampNeg) = 0 → (vp_in x1_7 8192 ∧ (vp_in x1_7 8192 ∧ (∃ k_47, wqR_giveBack_47 men mF mX x1_7 (upd mI_7 x1_7.toNatClampNeg (0 : Int32)) mhif_7 post (fun z2_47 mNe_47 mfre_47 => wqR_giveBack_7 men mF mX mhif_7 post kx n (x1_7 + (1 : Int32)) (upd mI_7 x1_7.toNatClampNeg (0 : Int32)) mNe_47 mfre_47) k_47 (mF x1_7.toNatClampNeg) mN_7 mfr_7)))) ∧ (¬ ((mX x1_7.toNatClampNeg) = 0) → (wqR_giveBack_7 men mF mX mhif_7 post kx n (x1_7 + (1 : Int32)) mI_7 mN_7 mfr_7))))))))
def wqR_giveBack (men : Int32) (mI : Nat → Int32) (mF : Nat → Int32) (mhi : Int32) (mN : Nat → Int32) (mfr : Int32) (mX : Nat → Int32) (post : (Nat → Int32) → Int32 → (Nat → Int32) → Int32 → Prop) : Prop :=
  ∃ k_7, wqR_giveBack_7 men mF mX (0 : Int32) post (fun z1_7 mIe_7 mNe_7 mfre_7 => post mIe_7 (0 : Int32) mNe_7 mfre_7) k_7 (0 : Int32) mI mN mfr
set_option maxHeartbeats 4000000 in
set_option maxRecDepth 100000 in
theorem mR_giveBack (l : Launch) (dC : Nat → ClassId) (dI : Nat → Nat → Nat) (cI : ClassId) (cZ : ClassId) (b0 : Nat) (bR : Nat) (bI : Nat) (bC : Nat) (bY : Nat) (bZ : Nat) (bF : Nat) (bL : Nat) (bN : Nat) (bX : Nat) (bT : Nat) (sz : Nat) (mcd : Int32) (mwd : Int32) (men : Int32) (mR : Nat → Int32) (mI : Nat → Int32) (mC : Nat → Int32) (mY : Nat → Int32) (mZ : Nat → Int32) (mF : Nat → Int32) (mmd : Int32) (mhi : Int32) (mL : Nat → Int32) (mN : Nat → Int32) (mfr : Int32) (mX : Nat → Int32) (mT : Nat → Int32) (mct : Int32) (mtk : Int32) (post : (Nat → Int32) → Int32 → (Nat → Int32) → Int32 → Prop) (h : wqR_giveBack men mI mF mhi mN mfr mX post) : Met l y_R_giveBack ws_R_giveBack ({ frames := 0, cells := 0, slots := 0, locals := 0 }) (rw_P (dC, dI) vwCl (RSw cI cZ b0 bR bI bC bY bZ bF bL bN bX bT mcd mwd men mR mI mC mY mZ mF mmd mhi mL mN mfr mX mT mct mtk) [(cI, .int), (cZ, .boolean)] sz [.ref b0]) (va_Qv (fun u : (Nat → Int32) × Int32 × (Nat → Int32) × Int32 => post u.1 u.2.1 u.2.2.1 u.2.2.2) (rw_B (dC, dI) vwCl [(cI, .int), (cZ, .boolean)] (va_A (RSw cI cZ b0 bR bI bC bY bZ bF bL bN bX bT mcd mwd men mR mI mC mY mZ mF mmd mhi mL mN mfr mX mT mct mtk) sz) (fun u : (Nat → Int32) × Int32 × (Nat → Int32) × Int32 => RSw cI cZ b0 bR bI bC bY bZ bF bL bN bX bT mcd mwd men mR u.1 mC mY mZ mF mmd u.2.1 mL u.2.2.1 u.2.2.2 mX mT mct mtk)) (va_A (RSw cI cZ b0 bR bI bC bY bZ bF bL bN bX bT mcd mwd men mR mI mC mY mZ mF mmd mhi mL mN mfr mX mT mct mtk) sz)) 0 0 (va_A (RSw cI cZ b0 bR bI bC bY bZ bF bL bN bX bT mcd mwd men mR mI mC mY mZ mF mmd mhi mL mN mfr mX mT mct mtk) sz) := by
  refine Met.ofW (cc := c_R_giveBack) (maxL := 4) (ret := none) (by decide) rfl ?_
  intro p e s m args below meth c s₁ B hml hv
  obtain ⟨rfl, hsz, hP, hK, hD0⟩ := hv
  have hx := B.exec
  have hb := B.bytes
  have hr9 := B.returns
  have hts := atoms_spec (ws := ws_R_giveBack) B.pre
  have hw : ∀ w ∈ WB_, w.before _ s = true := fun w h => hts w (List.mem_cons_of_mem _ h)
  have hown : s.vm.findClass R_R = some m.cls := findClass_of_methodNamed B.named
  have hlocks := B.notSynchronized
  subst hsz
  have hD := hD0.self (sz := s.heap.size)
  generalize hAe : va_A (RSw cI cZ b0 bR bI bC bY bZ bF bL bN bX bT mcd mwd men mR mI mC mY mZ mF mmd mhi mL mN mfr mX mT mct mtk) s.heap.size = A at hD ⊢
  have hA : ∀ q : Nat, s.heap.size ≤ q → A q := fun q h => by rw [← hAe]; exact Or.inr h
  have hS : va_S A s.heap s.heap [] := va_S.rf
  have hl := lv_entry ([.ref b0]) (n := 4) (Nat.le_of_ble_eq_true rfl)
  rw [lg_entry_eq]
  generalize (lg_sl ([.ref b0]) ++ List.replicate (4 - (lg_sl ([.ref b0])).length) Slot.unset).toArray = ls at hl ⊢
  have hl : lv_has ls 4 [(0, .ref b0)] := hl
  have lp_47 : ∀ (y1_47 : Int32) (mIf_47 : Nat → Int32) (mhif_47 : Int32) (kx : Int32 → (Nat → Int32) → Int32 → Prop), (∀ (z2_47 : Int32) (mNe_47 : Nat → Int32) (mfre_47 : Int32) (H : Heap) (locs : List Loc) (ls : Array Slot), va_P (dC, dI) vwCl (RSw cI cZ b0 bR bI bC bY bZ bF bL bN bX bT mcd mwd men mR mIf_47 mC mY mZ mF mmd mhif_47 mL mNe_47 mfre_47 mX mT mct mtk) H → va_D A (RSw cI cZ b0 bR bI bC bY bZ bF bL bN bX bT mcd mwd men mR mIf_47 mC mY mZ mF mmd mhif_47 mL mNe_47 mfre_47 mX mT mct mtk) → va_S A s.heap H locs → lv_has ls 4 [(0, .ref b0), (1, .int y1_47), (2, .int z2_47)] → kx z2_47 mNe_47 mfre_47 → W p l e (headSpec ws_R_giveBack ({ frames := 0, cells := 0, slots := 0, locals := 0 })).room s m ([.ref b0] : List Value).toArray below meth c H locs (0) (0) (MQ below (va_Qv (fun u : (Nat → Int32) × Int32 × (Nat → Int32) × Int32 => post u.1 u.2.1 u.2.2.1 u.2.2.2) (rw_B (dC, dI) vwCl [(cI, .int), (cZ, .boolean)] A (fun u : (Nat → Int32) × Int32 × (Nat → Int32) × Int32 => RSw cI cZ b0 bR bI bC bY bZ bF bL bN bX bT mcd mwd men mR u.1 mC mY mZ mF mmd u.2.1 mL u.2.2.1 u.2.2.2 mX mT mct mtk)) A) ([.ref b0] : List Value).toArray s 0 0 A) (F0 m 78 ls [])) → ∀ (n : Nat) (x2_47 : Int32) (mN_47 : Nat → Int32) (mfr_47 : Int32) (H : Heap) (locs : List Loc) (ls : Array Slot), va_P (dC, dI) vwCl (RSw cI cZ b0 bR bI bC bY bZ bF bL bN bX bT mcd mwd men mR mIf_47 mC mY mZ mF mmd mhif_47 mL mN_47 mfr_47 mX mT mct mtk) H → va_D A (RSw cI cZ b0 bR bI bC bY bZ bF bL bN bX bT mcd mwd men mR mIf_47 mC mY mZ mF mmd mhif_47 mL mN_47 mfr_47 mX mT mct mtk) → va_S A s.heap H locs → lv_has ls 4 [(0, .ref b0), (1, .int y1_47), (2, .int x2_47)] → wqR_giveBack_47 men mF mX y1_47 mIf_47 mhif_47 post kx n x2_47 mN_47 mfr_47 → W p l e (headSpec ws_R_giveBack ({ frames := 0, cells := 0, slots := 0, locals := 0 })).room s m ([.ref b0] : List Value).toArray below meth c H locs (0) (0) (MQ below (va_Qv (fun u : (Nat → Int32) × Int32 × (Nat → Int32) × Int32 => post u.1 u.2.1 u.2.2.1 u.2.2.2) (rw_B (dC, dI) vwCl [(cI, .int), (cZ, .boolean)] A (fun u : (Nat → Int32) × Int32 × (Nat → Int32) × Int32 => RSw cI cZ b0 bR bI bC bY bZ bF bL bN bX bT mcd mwd men mR u.1 mC mY mZ mF mmd u.2.1 mL u.2.2.1 u.2.2.2 mX mT mct mtk)) A) ([.ref b0] : List Value).toArray s 0 0 A) (F0 m 47 ls []) := by
    intro y1_47 mIf_47 mhif_47 kx K n
    induction n with
    | zero => intro x2_47 mN_47 mfr_47 H locs ls hP hD hS hl h; exact h.elim
    | succ n ih =>
      intro x2_47 mN_47 mfr_47 H locs ls hP hD hS hl h
      refine lv_iload_n hx hb d_R_giveBack_47 rfl (lv_at hl 2 rfl) ?_
      refine lv_if_lt (tgt := 78) hx hb d_R_giveBack_48 (by decide) (fun c_48 => ?_) (fun c_48 => ?_)
      · have h := h.1 c_48
        exact K x2_47 mN_47 mfr_47 H locs ls hP hD hS (lv_sub hl [0, 1, 2] rfl) h
      · have h := h.2 c_48
        refine lv_aload_n hx hb d_R_giveBack_51 rfl (lv_at hl 0 rfl) ?_
        refine va_get (D := (dC, dI)) (ci := 2) (v := .ref bN) (C := R_R) (T := T_R) (N := 18) hx hb hw in_R hown hK hP 0 rfl rfl 12 (by decide) (hw _ wd_628) (fun _ h9 => h9) rfl d_R_giveBack_52 ?_
        refine lv_iload_n hx hb d_R_giveBack_55 rfl (lv_at hl 2 rfl) ?_
        refine va_iald hx hb hK hP 8 0 rfl rfl h.1 d_R_giveBack_56 ?_
        have h := h.2
        refine lv_istore_n (lv' := [(3, .int (mN_47 x2_47.toNatClampNeg)), (0, .ref b0), (1, .int y1_47), (2, .int x2_47)]) hx hb d_R_giveBack_57 rfl hl (by decide) rfl (fun ls hl => ?_)
        refine lv_aload_n hx hb d_R_giveBack_58 rfl (lv_at hl 1 rfl) ?_
        refine va_get (D := (dC, dI)) (ci := 2) (v := .ref bN) (C := R_R) (T := T_R) (N := 18) hx hb hw in_R hown hK hP 0 rfl rfl 12 (by decide) (hw _ wd_628) (fun _ h9 => h9) rfl d_R_giveBack_59 ?_
        refine lv_iload_n hx hb d_R_giveBack_62 rfl (lv_at hl 3 rfl) ?_
        refine lv_aload_n hx hb d_R_giveBack_63 rfl (lv_at hl 1 rfl) ?_
        refine va_get (D := (dC, dI)) (ci := 2) (v := .int mfr_47) (C := R_R) (T := T_R) (N := 18) hx hb hw in_R hown hK hP 0 rfl rfl 13 (by decide) (hw _ wd_629) (fun _ h9 => h9) rfl d_R_giveBack_64 ?_
        refine va_iast hx hb hK hP hD hS 8 0 rfl rfl h.1 d_R_giveBack_67 (fun H locs hP hD hS => ?_)
        have hP : va_P (dC, dI) vwCl (RSw cI cZ b0 bR bI bC bY bZ bF bL bN bX bT mcd mwd men mR mIf_47 mC mY mZ mF mmd mhif_47 mL (upd mN_47 x2_47.toNatClampNeg mfr_47) mfr_47 mX mT mct mtk) H := hP
        have hD : va_D A (RSw cI cZ b0 bR bI bC bY bZ bF bL bN bX bT mcd mwd men mR mIf_47 mC mY mZ mF mmd mhif_47 mL (upd mN_47 x2_47.toNatClampNeg mfr_47) mfr_47 mX mT mct mtk) := hD
        have h := h.2
        refine lv_aload_n hx hb d_R_giveBack_68 rfl (lv_at hl 1 rfl) ?_
        refine lv_iload_n hx hb d_R_giveBack_69 rfl (lv_at hl 3 rfl) ?_
        refine va_put (D := (dC, dI)) (ci := 2) (v := .int x2_47) (ty := .int) (C := R_R) (T := T_R) (N := 18) hx hb hw in_R ty_R ty_R_ok nm_R hown hK hP hD hS 0 rfl rfl 13 (by decide) (hw _ wd_629) (fun _ h9 => h9) rfl (by decide +kernel) rfl rfl (Nat.le_of_ble_eq_true rfl) d_R_giveBack_70 (fun H locs hP hD hS => ?_)
        have hP : va_P (dC, dI) vwCl (RSw cI cZ b0 bR bI bC bY bZ bF bL bN bX bT mcd mwd men mR mIf_47 mC mY mZ mF mmd mhif_47 mL (upd mN_47 x2_47.toNatClampNeg mfr_47) x2_47 mX mT mct mtk) H := hP
        have hD : va_D A (RSw cI cZ b0 bR bI bC bY bZ bF bL bN bX bT mcd mwd men mR mIf_47 mC mY mZ mF mmd mhif_47 mL (upd mN_47 x2_47.toNatClampNeg mfr_47) x2_47 mX mT mct mtk) := hD
        refine lv_iload_n hx hb d_R_giveBack_73 rfl (lv_at hl 0 rfl) ?_
        refine lv_istore_n (lv' := [(2, .int (mN_47 x2_47.toNatClampNeg)), (3, .int (mN_47 x2_47.toNatClampNeg)), (0, .ref b0), (1, .int y1_47)]) hx hb d_R_giveBack_74 rfl hl (by decide) rfl (fun ls hl => ?_)
        refine lv_goto (tgt := 47) hx hb d_R_giveBack_75 (by decide) ?_
        exact ih (mN_47 x2_47.toNatClampNeg) (upd mN_47 x2_47.toNatClampNeg mfr_47) x2_47 H locs ls hP hD hS (lv_sub hl [2, 3, 0] rfl) h
  have lp_7 : ∀ (mhif_7 : Int32) (kx : Int32 → (Nat → Int32) → (Nat → Int32) → Int32 → Prop), (∀ (z1_7 : Int32) (mIe_7 : Nat → Int32) (mNe_7 : Nat → Int32) (mfre_7 : Int32) (H : Heap) (locs : List Loc) (ls : Array Slot), va_P (dC, dI) vwCl (RSw cI cZ b0 bR bI bC bY bZ bF bL bN bX bT mcd mwd men mR mIe_7 mC mY mZ mF mmd mhif_7 mL mNe_7 mfre_7 mX mT mct mtk) H → va_D A (RSw cI cZ b0 bR bI bC bY bZ bF bL bN bX bT mcd mwd men mR mIe_7 mC mY mZ mF mmd mhif_7 mL mNe_7 mfre_7 mX mT mct mtk) → va_S A s.heap H locs → lv_has ls 4 [(0, .ref b0), (1, .int z1_7)] → kx z1_7 mIe_7 mNe_7 mfre_7 → W p l e (headSpec ws_R_giveBack ({ frames := 0, cells := 0, slots := 0, locals := 0 })).room s m ([.ref b0] : List Value).toArray below meth c H locs (0) (0) (MQ below (va_Qv (fun u : (Nat → Int32) × Int32 × (Nat → Int32) × Int32 => post u.1 u.2.1 u.2.2.1 u.2.2.2) (rw_B (dC, dI) vwCl [(cI, .int), (cZ, .boolean)] A (fun u : (Nat → Int32) × Int32 × (Nat → Int32) × Int32 => RSw cI cZ b0 bR bI bC bY bZ bF bL bN bX bT mcd mwd men mR u.1 mC mY mZ mF mmd u.2.1 mL u.2.2.1 u.2.2.2 mX mT mct mtk)) A) ([.ref b0] : List Value).toArray s 0 0 A) (F0 m 84 ls [])) → ∀ (n : Nat) (x1_7 : Int32) (mI_7 : Nat → Int32) (mN_7 : Nat → Int32) (mfr_7 : Int32) (H : Heap) (locs : List Loc) (ls : Array Slot), va_P (dC, dI) vwCl (RSw cI cZ b0 bR bI bC bY bZ bF bL bN bX bT mcd mwd men mR mI_7 mC mY mZ mF mmd mhif_7 mL mN_7 mfr_7 mX mT mct mtk) H → va_D A (RSw cI cZ b0 bR bI bC bY bZ bF bL bN bX bT mcd mwd men mR mI_7 mC mY mZ mF mmd mhif_7 mL mN_7 mfr_7 mX mT mct mtk) → va_S A s.heap H locs → lv_has ls 4 [(0, .ref b0), (1, .int x1_7)] → wqR_giveBack_7 men mF mX mhif_7 post kx n x1_7 mI_7 mN_7 mfr_7 → W p l e (headSpec ws_R_giveBack ({ frames := 0, cells := 0, slots := 0, locals := 0 })).room s m ([.ref b0] : List Value).toArray below meth c H locs (0) (0) (MQ below (va_Qv (fun u : (Nat → Int32) × Int32 × (Nat → Int32) × Int32 => post u.1 u.2.1 u.2.2.1 u.2.2.2) (rw_B (dC, dI) vwCl [(cI, .int), (cZ, .boolean)] A (fun u : (Nat → Int32) × Int32 × (Nat → Int32) × Int32 => RSw cI cZ b0 bR bI bC bY bZ bF bL bN bX bT mcd mwd men mR u.1 mC mY mZ mF mmd u.2.1 mL u.2.2.1 u.2.2.2 mX mT mct mtk)) A) ([.ref b0] : List Value).toArray s 0 0 A) (F0 m 7 ls []) := by
    intro mhif_7 kx K n
    induction n with
    | zero => intro x1_7 mI_7 mN_7 mfr_7 H locs ls hP hD hS hl h; exact h.elim
    | succ n ih =>
      intro x1_7 mI_7 mN_7 mfr_7 H locs ls hP hD hS hl h
      refine lv_iload_n hx hb d_R_giveBack_7 rfl (lv_at hl 1 rfl) ?_
      refine lv_aload_n hx hb d_R_giveBack_8 rfl (lv_at hl 0 rfl) ?_
      refine va_get (D := (dC, dI)) (ci := 2) (v := .int men) (C := R_R) (T := T_R) (N := 18) hx hb hw in_R hown hK hP 0 rfl rfl 2 (by decide) (hw _ wd_618) (fun _ h9 => h9) rfl d_R_giveBack_9 ?_
      refine lv_icmp_ge (tgt := 84) hx hb d_R_giveBack_12 (by decide) (fun c_12 => ?_) (fun c_12 => ?_)
      · have h := h.1 c_12
        exact K x1_7 mI_7 mN_7 mfr_7 H locs ls hP hD hS (lv_sub hl [0, 1] rfl) h
      · have h := h.2 c_12
        refine lv_aload_n hx hb d_R_giveBack_15 rfl (lv_at hl 0 rfl) ?_
        refine va_get (D := (dC, dI)) (ci := 2) (v := .ref bI) (C := R_R) (T := T_R) (N := 18) hx hb hw in_R hown hK hP 0 rfl rfl 4 (by decide) (hw _ wd_620) (fun _ h9 => h9) rfl d_R_giveBack_16 ?_
        refine lv_iload_n hx hb d_R_giveBack_19 rfl (lv_at hl 1 rfl) ?_
        refine va_iald hx hb hK hP 2 0 rfl rfl h.1 d_R_giveBack_20 ?_
        have h := h.2
        refine lv_if_le (tgt := 78) hx hb d_R_giveBack_21 (by decide) (fun c_21 => ?_) (fun c_21 => ?_)
        · have h := h.1 c_21
          refine lv_iinc (v := x1_7 + (1 : Int32)) (lv' := [(1, .int (x1_7 + (1 : Int32))), (0, .ref b0)]) hx hb d_R_giveBack_78 hl (k := 1) rfl rfl (by decide) rfl (fun ls hl => ?_)
          refine lv_goto (tgt := 7) hx hb d_R_giveBack_81 (by decide) ?_
          exact ih (x1_7 + (1 : Int32)) mI_7 mN_7 mfr_7 H locs ls hP hD hS (lv_sub hl [1, 0] rfl) h
        · have h := h.2 c_21
          refine lv_aload_n hx hb d_R_giveBack_24 rfl (lv_at hl 0 rfl) ?_
          refine va_get (D := (dC, dI)) (ci := 2) (v := .ref bX) (C := R_R) (T := T_R) (N := 18) hx hb hw in_R hown hK hP 0 rfl rfl 14 (by decide) (hw _ wd_630) (fun _ h9 => h9) rfl d_R_giveBack_25 ?_
          refine lv_iload_n hx hb d_R_giveBack_28 rfl (lv_at hl 1 rfl) ?_
          refine va_zald hx hb hK hP 9 1 rfl rfl h.1 d_R_giveBack_29 ?_
          have h := h.2
          refine lv_if_ne (tgt := 78) hx hb d_R_giveBack_30 (by decide) (fun c_30 => ?_) (fun c_30 => ?_)
          · have h := h.2 c_30
            refine lv_iinc (v := x1_7 + (1 : Int32)) (lv' := [(1, .int (x1_7 + (1 : Int32))), (0, .ref b0)]) hx hb d_R_giveBack_78 hl (k := 1) rfl rfl (by decide) rfl (fun ls hl => ?_)
            refine lv_goto (tgt := 7) hx hb d_R_giveBack_81 (by decide) ?_
            exact ih (x1_7 + (1 : Int32)) mI_7 mN_7 mfr_7 H locs ls hP hD hS (lv_sub hl [1, 0] rfl) h
          · have h := h.1 c_30
            refine lv_aload_n hx hb d_R_giveBack_33 rfl (lv_at hl 0 rfl) ?_
            refine va_get (D := (dC, dI)) (ci := 2) (v := .ref bI) (C := R_R) (T := T_R) (N := 18) hx hb hw in_R hown hK hP 0 rfl rfl 4 (by decide) (hw _ wd_620) (fun _ h9 => h9) rfl d_R_giveBack_34 ?_
            refine lv_iload_n hx hb d_R_giveBack_37 rfl (lv_at hl 1 rfl) ?_
            refine lv_iconst (v := (0 : Int32)) hx hb d_R_giveBack_38 (by decide) ?_
            refine va_iast hx hb hK hP hD hS 2 0 rfl rfl h.1 d_R_giveBack_39 (fun H locs hP hD hS => ?_)
            have hP : va_P (dC, dI) vwCl (RSw cI cZ b0 bR bI bC bY bZ bF bL bN bX bT mcd mwd men mR (upd mI_7 x1_7.toNatClampNeg (0 : Int32)) mC mY mZ mF mmd mhif_7 mL mN_7 mfr_7 mX mT mct mtk) H := hP
            have hD : va_D A (RSw cI cZ b0 bR bI bC bY bZ bF bL bN bX bT mcd mwd men mR (upd mI_7 x1_7.toNatClampNeg (0 : Int32)) mC mY mZ mF mmd mhif_7 mL mN_7 mfr_7 mX mT mct mtk) := hD
            have h := h.2
            refine lv_aload_n hx hb d_R_giveBack_40 rfl (lv_at hl 0 rfl) ?_
            refine va_get (D := (dC, dI)) (ci := 2) (v := .ref bF) (C := R_R) (T := T_R) (N := 18) hx hb hw in_R hown hK hP 0 rfl rfl 8 (by decide) (hw _ wd_624) (fun _ h9 => h9) rfl d_R_giveBack_41 ?_
            refine lv_iload_n hx hb d_R_giveBack_44 rfl (lv_at hl 1 rfl) ?_
            refine va_iald hx hb hK hP 6 0 rfl rfl h.1 d_R_giveBack_45 ?_
            have h := h.2
            refine lv_istore_n (lv' := [(2, .int (mF x1_7.toNatClampNeg)), (0, .ref b0), (1, .int x1_7)]) hx hb d_R_giveBack_46 rfl hl (by decide) rfl (fun ls hl => ?_)
            obtain ⟨n_47, h⟩ := h
            refine lp_47 x1_7 (upd mI_7 x1_7.toNatClampNeg (0 : Int32)) mhif_7 _ (fun z2_47 mNe_47 mfre_47 H locs ls hP hD hS hl h => ?_) n_47 (mF x1_7.toNatClampNeg) mN_7 mfr_7 H locs ls hP hD hS (lv_sub hl [1, 2, 0] rfl) h
            refine lv_iinc (v := x1_7 + (1 : Int32)) (lv' := [(1, .int (x1_7 + (1 : Int32))), (0, .ref b0), (2, .int z2_47)]) hx hb d_R_giveBack_78 hl (k := 1) rfl rfl (by decide) rfl (fun ls hl => ?_)
            refine lv_goto (tgt := 7) hx hb d_R_giveBack_81 (by decide) ?_
            exact ih (x1_7 + (1 : Int32)) (upd mI_7 x1_7.toNatClampNeg (0 : Int32)) mNe_47 mfre_47 H locs ls hP hD hS (lv_sub hl [1, 0] rfl) h
  unfold wqR_giveBack at h
  refine lv_aload_n hx hb d_R_giveBack_0 rfl (lv_at hl 0 rfl) ?_
  refine lv_iconst (v := (0 : Int32)) hx hb d_R_giveBack_1 (by decide) ?_
  refine va_put (D := (dC, dI)) (ci := 2) (v := .int (0 : Int32)) (ty := .int) (C := R_R) (T := T_R) (N := 18) hx hb hw in_R ty_R ty_R_ok nm_R hown hK hP hD hS 0 rfl rfl 10 (by decide) (hw _ wd_626) (fun _ h9 => h9) rfl (by decide +kernel) rfl rfl (Nat.le_of_ble_eq_true rfl) d_R_giveBack_2 (fun H locs hP hD hS => ?_)
  have hP : va_P (dC, dI) vwCl (RSw cI cZ b0 bR bI bC bY bZ bF bL bN bX bT mcd mwd men mR mI mC mY mZ mF mmd (0 : Int32) mL mN mfr mX mT mct mtk) H := hP
  have hD : va_D A (RSw cI cZ b0 bR bI bC bY bZ bF bL bN bX bT mcd mwd men mR mI mC mY mZ mF mmd (0 : Int32) mL mN mfr mX mT mct mtk) := hD
  refine lv_iconst (v := (0 : Int32)) hx hb d_R_giveBack_5 (by decide) ?_
  refine lv_istore_n (lv' := [(1, .int (0 : Int32)), (0, .ref b0)]) hx hb d_R_giveBack_6 rfl hl (by decide) rfl (fun ls hl => ?_)
  obtain ⟨n_7, h⟩ := h
  refine lp_7 (0 : Int32) _ (fun z1_7 mIe_7 mNe_7 mfre_7 H locs ls hP hD hS hl h => ?_) n_7 (0 : Int32) mI mN mfr H locs ls hP hD hS (lv_sub hl [1, 0] rfl) h
  exact W.vret hx hb hr9 (fun t ht hW => ⟨⟨(mIe_7, (0 : Int32), mNe_7, mfre_7), rfl, h, by rw [ht]; exact hP, va_K.moved hW.alike hK, hD⟩, hS.F ht⟩) hS.2.2 d_R_giveBack_84
def wqR_add_89 (y1_89 : Int32) (y2_89 : Int32) (y3_89 : Int32) (y4_89 : Int32) (mIf_89 : Nat → Int32) (mCf_89 : Nat → Int32) (mYf_89 : Nat → Int32) (mZf_89 : Nat → Int32) (mmdf_89 : Int32) (mhif_89 : Int32) (post : Int32 → (Nat → Int32) → (Nat → Int32) → (Nat → Int32) → (Nat → Int32) → (Nat → Int32) → Int32 → Int32 → (Nat → Int32) → (Nat → Int32) → Int32 → Prop) (kx : Int32 → (Nat → Int32) → (Nat → Int32) → (Nat → Int32) → Int32 → Prop) : Nat → Int32 → (Nat → Int32) → (Nat → Int32) → (Nat → Int32) → Int32 → Prop
  | 0, _, _, _, _, _ => False
  | n + 1, x5_89, mF_89, mL_89, mN_89, mfr_89 =>
    wqR_cellsFor y2_89 y3_89 (fun r93 => (r93 ≤ x5_89 → (kx x5_89 mF_89 mL_89 mN_89 mfr_89)) ∧ (¬ (r93 ≤ x5_89) → (vp_in mfr_89 65536 ∧ (vp_in mfr_89 65536 ∧ (vp_in y4_89 8192 ∧ (vp_in mfr_89 65536 ∧ (vp_in y4_89 8192 ∧ (wqR_add_89 y1_89 y2_89 y3_89 y4_89 mIf_89 mCf_89 mYf_89 mZf_89 mmdf_89 mhif_89 post kx n (x5_89 + (1 : Int32)) (upd mF_89 y4_89.toNatClampNeg mfr_89) (upd mL_89 mfr_89.toNatClampNeg (0 : Int32)) (upd mN_89 mfr_89.toNatClampNeg (mF_89 y4_89.toNatClampNeg)) (mN_89 mfr_89.toNatClampNeg)))))))))
def wqR_add_6 (y1_6 : Int32) (y2_6 : Int32) (y3_6 : Int32) (mIf_6 : Nat → Int32) (mCf_6 : Nat → Int32) (mYf_6 : Nat → Int32) (mZf_6 : Nat → Int32) (mFf_6 : Nat → Int32) (mmdf_6 : Int32) (mhif_6 : Int32) (mLf_6 : Nat → Int32) (mNf_6 : Nat → Int32) (mfrf_6 : Int32) (post : Int32 → (Nat → Int32) → (Nat → Int32) → (Nat → Int32) → (Nat → Int32) → (Nat → Int32) → Int32 → Int32 → (Nat → Int32) → (Nat → Int32) → Int32 → Prop) (kx : Int32 → Prop) : Nat → Int32 → Prop
  | 0, _ => False
  | n + 1, x4_6 =>
    vp_in x4_6 8192 ∧ (((mIf_6 x4_6.toNatClampNeg) ≤ 0 → (kx x4_6)) ∧ (¬ ((mIf_6 x4_6.toNatClampNeg) ≤ 0) → (wqR_add_6 y1_6 y2_6 y3_6 mIf_6 mCf_6 mYf_6 mZf_6 mFf_6 mmdf_6 mhif_6 mLf_6 mNf_6 mfrf_6 post kx n (x4_6 + (1 : Int32)))))
def wqR_add (mI : Nat → Int32) (mC : Nat → Int32) (mY : Nat → Int32) (mZ : Nat → Int32) (mF : Nat → Int32) (mmd : Int32) (mhi : Int32) (mL : Nat → Int32) (mN : Nat → Int32) (mfr : Int32) (a1 : Int32) (a2 : Int32) (a3 : Int32) (post : Int32 → (Nat → Int32) → (Nat → Int32) → (Nat → Int32) → (Nat → Int32) → (Nat → Int32) → Int32 → Int32 → (Nat → Int32) → (Nat → Int32) → Int32 → Prop) : Prop :=
  ∃ k_6, wqR_add_6 a1 a2 a3 mI mC mY mZ mF mmd mhi mL mN mfr post (fun z4_6 => vp_in z4_6 8192 ∧ (vp_in z4_6 8192 ∧ (vp_in z4_6 8192 ∧ (vp_in z4_6 8192 ∧ (vp_in z4_6 8192 ∧ (∃ k_89, wqR_add_89 a1 a2 a3 z4_6 (upd mI z4_6.toNatClampNeg (mmd + (1 : Int32))) (upd mC z4_6.toNatClampNeg a1) (upd mY z4_6.toNatClampNeg (vp_nar .boolean a3)) (upd mZ z4_6.toNatClampNeg a2) (mmd + (1 : Int32)) (z4_6 + (1 : Int32)) post (fun z5_89 mFe_89 mLe_89 mNe_89 mfre_89 => post z4_6 (upd mI z4_6.toNatClampNeg (mmd + (1 : Int32))) (upd mC z4_6.toNatClampNeg a1) (upd mY z4_6.toNatClampNeg (vp_nar .boolean a3)) (upd mZ z4_6.toNatClampNeg a2) mFe_89 (mmd + (1 : Int32)) (z4_6 + (1 : Int32)) mLe_89 mNe_89 mfre_89) k_89 (0 : Int32) (upd mF z4_6.toNatClampNeg (-1 : Int32)) mL mN mfr)))))) k_6 mhi
set_option maxHeartbeats 4000000 in
set_option maxRecDepth 100000 in
theorem mR_add (l : Launch) (dC : Nat → ClassId) (dI : Nat → Nat → Nat) (cI : ClassId) (cZ : ClassId) (b0 : Nat) (bR : Nat) (bI : Nat) (bC : Nat) (bY : Nat) (bZ : Nat) (bF : Nat) (bL : Nat) (bN : Nat) (bX : Nat) (bT : Nat) (sz : Nat) (mcd : Int32) (mwd : Int32) (men : Int32) (mR : Nat → Int32) (mI : Nat → Int32) (mC : Nat → Int32) (mY : Nat → Int32) (mZ : Nat → Int32) (mF : Nat → Int32) (mmd : Int32) (mhi : Int32) (mL : Nat → Int32) (mN : Nat → Int32) (mfr : Int32) (mX : Nat → Int32) (mT : Nat → Int32) (mct : Int32) (mtk : Int32) (a1 : Int32) (a2 : Int32) (a3 : Int32) (post : Int32 → (Nat → Int32) → (Nat → Int32) → (Nat → Int32) → (Nat → Int32) → (Nat → Int32) → Int32 → Int32 → (Nat → Int32) → (Nat → Int32) → Int32 → Prop) (h : wqR_add mI mC mY mZ mF mmd mhi mL mN mfr a1 a2 a3 post) : Met l y_R_add ws_R_add ({ frames := 1, cells := 0, slots := 0, locals := 21 }) (rw_P (dC, dI) vwCl (RSw cI cZ b0 bR bI bC bY bZ bF bL bN bX bT mcd mwd men mR mI mC mY mZ mF mmd mhi mL mN mfr mX mT mct mtk) [(cI, .int), (cZ, .boolean)] sz [.ref b0, .int a1, .int a2, .int a3]) (va_Qi (fun (r : Int32) (u : (Nat → Int32) × (Nat → Int32) × (Nat → Int32) × (Nat → Int32) × (Nat → Int32) × Int32 × Int32 × (Nat → Int32) × (Nat → Int32) × Int32) => post r u.1 u.2.1 u.2.2.1 u.2.2.2.1 u.2.2.2.2.1 u.2.2.2.2.2.1 u.2.2.2.2.2.2.1 u.2.2.2.2.2.2.2.1 u.2.2.2.2.2.2.2.2.1 u.2.2.2.2.2.2.2.2.2) (rw_B (dC, dI) vwCl [(cI, .int), (cZ, .boolean)] (va_A (RSw cI cZ b0 bR bI bC bY bZ bF bL bN bX bT mcd mwd men mR mI mC mY mZ mF mmd mhi mL mN mfr mX mT mct mtk) sz) (fun u : (Nat → Int32) × (Nat → Int32) × (Nat → Int32) × (Nat → Int32) × (Nat → Int32) × Int32 × Int32 × (Nat → Int32) × (Nat → Int32) × Int32 => RSw cI cZ b0 bR bI bC bY bZ bF bL bN bX bT mcd mwd men mR u.1 u.2.1 u.2.2.1 u.2.2.2.1 u.2.2.2.2.1 u.2.2.2.2.2.1 u.2.2.2.2.2.2.1 u.2.2.2.2.2.2.2.1 u.2.2.2.2.2.2.2.2.1 u.2.2.2.2.2.2.2.2.2 mX mT mct mtk)) (va_A (RSw cI cZ b0 bR bI bC bY bZ bF bL bN bX bT mcd mwd men mR mI mC mY mZ mF mmd mhi mL mN mfr mX mT mct mtk) sz)) 0 0 (va_A (RSw cI cZ b0 bR bI bC bY bZ bF bL bN bX bT mcd mwd men mR mI mC mY mZ mF mmd mhi mL mN mfr mX mT mct mtk) sz) := by
  refine Met.ofW (cc := c_R_add) (maxL := 7) (ret := (some .int)) (by decide) rfl ?_
  intro p e s m args below meth c s₁ B hml hv
  obtain ⟨rfl, hsz, hP, hK, hD0⟩ := hv
  have hx := B.exec
  have hb := B.bytes
  have hr9 := B.returns
  have hts := atoms_spec (ws := ws_R_add) B.pre
  have hw : ∀ w ∈ WB_, w.before _ s = true := fun w h => hts w (List.mem_cons_of_mem _ h)
  have hown : s.vm.findClass R_R = some m.cls := findClass_of_methodNamed B.named
  have hlocks := B.notSynchronized
  subst hsz
  have hD := hD0.self (sz := s.heap.size)
  generalize hAe : va_A (RSw cI cZ b0 bR bI bC bY bZ bF bL bN bX bT mcd mwd men mR mI mC mY mZ mF mmd mhi mL mN mfr mX mT mct mtk) s.heap.size = A at hD ⊢
  have hA : ∀ q : Nat, s.heap.size ≤ q → A q := fun q h => by rw [← hAe]; exact Or.inr h
  have hS : va_S A s.heap s.heap [] := va_S.rf
  have hl := lv_entry ([.ref b0, .int a1, .int a2, .int a3]) (n := 7) (Nat.le_of_ble_eq_true rfl)
  rw [lg_entry_eq]
  generalize (lg_sl ([.ref b0, .int a1, .int a2, .int a3]) ++ List.replicate (7 - (lg_sl ([.ref b0, .int a1, .int a2, .int a3])).length) Slot.unset).toArray = ls at hl ⊢
  have hl : lv_has ls 7 [(0, .ref b0), (1, .int a1), (2, .int a2), (3, .int a3)] := hl
  have lp_89 : ∀ (y1_89 : Int32) (y2_89 : Int32) (y3_89 : Int32) (y4_89 : Int32) (mIf_89 : Nat → Int32) (mCf_89 : Nat → Int32) (mYf_89 : Nat → Int32) (mZf_89 : Nat → Int32) (mmdf_89 : Int32) (mhif_89 : Int32) (kx : Int32 → (Nat → Int32) → (Nat → Int32) → (Nat → Int32) → Int32 → Prop), (∀ (z5_89 : Int32) (mFe_89 : Nat → Int32) (mLe_89 : Nat → Int32) (mNe_89 : Nat → Int32) (mfre_89 : Int32) (H : Heap) (locs : List Loc) (ls : Array Slot), va_P (dC, dI) vwCl (RSw cI cZ b0 bR bI bC bY bZ bF bL bN bX bT mcd mwd men mR mIf_89 mCf_89 mYf_89 mZf_89 mFe_89 mmdf_89 mhif_89 mLe_89 mNe_89 mfre_89 mX mT mct mtk) H → va_D A (RSw cI cZ b0 bR bI bC bY bZ bF bL bN bX bT mcd mwd men mR mIf_89 mCf_89 mYf_89 mZf_89 mFe_89 mmdf_89 mhif_89 mLe_89 mNe_89 mfre_89 mX mT mct mtk) → va_S A s.heap H locs → lv_has ls 7 [(0, .ref b0), (1, .int y1_89), (2, .int y2_89), (3, .int y3_89), (4, .int y4_89), (5, .int z5_89)] → kx z5_89 mFe_89 mLe_89 mNe_89 mfre_89 → W p l e (headSpec ws_R_add ({ frames := 1, cells := 0, slots := 0, locals := 21 })).room s m ([.ref b0, .int a1, .int a2, .int a3] : List Value).toArray below meth c H locs (0) (0) (MQ below (va_Qi (fun (r : Int32) (u : (Nat → Int32) × (Nat → Int32) × (Nat → Int32) × (Nat → Int32) × (Nat → Int32) × Int32 × Int32 × (Nat → Int32) × (Nat → Int32) × Int32) => post r u.1 u.2.1 u.2.2.1 u.2.2.2.1 u.2.2.2.2.1 u.2.2.2.2.2.1 u.2.2.2.2.2.2.1 u.2.2.2.2.2.2.2.1 u.2.2.2.2.2.2.2.2.1 u.2.2.2.2.2.2.2.2.2) (rw_B (dC, dI) vwCl [(cI, .int), (cZ, .boolean)] A (fun u : (Nat → Int32) × (Nat → Int32) × (Nat → Int32) × (Nat → Int32) × (Nat → Int32) × Int32 × Int32 × (Nat → Int32) × (Nat → Int32) × Int32 => RSw cI cZ b0 bR bI bC bY bZ bF bL bN bX bT mcd mwd men mR u.1 u.2.1 u.2.2.1 u.2.2.2.1 u.2.2.2.2.1 u.2.2.2.2.2.1 u.2.2.2.2.2.2.1 u.2.2.2.2.2.2.2.1 u.2.2.2.2.2.2.2.2.1 u.2.2.2.2.2.2.2.2.2 mX mT mct mtk)) A) ([.ref b0, .int a1, .int a2, .int a3] : List Value).toArray s 0 0 A) (F0 m 153 ls [])) → ∀ (n : Nat) (x5_89 : Int32) (mF_89 : Nat → Int32) (mL_89 : Nat → Int32) (mN_89 : Nat → Int32) (mfr_89 : Int32) (H : Heap) (locs : List Loc) (ls : Array Slot), va_P (dC, dI) vwCl (RSw cI cZ b0 bR bI bC bY bZ bF bL bN bX bT mcd mwd men mR mIf_89 mCf_89 mYf_89 mZf_89 mF_89 mmdf_89 mhif_89 mL_89 mN_89 mfr_89 mX mT mct mtk) H → va_D A (RSw cI cZ b0 bR bI bC bY bZ bF bL bN bX bT mcd mwd men mR mIf_89 mCf_89 mYf_89 mZf_89 mF_89 mmdf_89 mhif_89 mL_89 mN_89 mfr_89 mX mT mct mtk) → va_S A s.heap H locs → lv_has ls 7 [(0, .ref b0), (1, .int y1_89), (2, .int y2_89), (3, .int y3_89), (4, .int y4_89), (5, .int x5_89)] → wqR_add_89 y1_89 y2_89 y3_89 y4_89 mIf_89 mCf_89 mYf_89 mZf_89 mmdf_89 mhif_89 post kx n x5_89 mF_89 mL_89 mN_89 mfr_89 → W p l e (headSpec ws_R_add ({ frames := 1, cells := 0, slots := 0, locals := 21 })).room s m ([.ref b0, .int a1, .int a2, .int a3] : List Value).toArray below meth c H locs (0) (0) (MQ below (va_Qi (fun (r : Int32) (u : (Nat → Int32) × (Nat → Int32) × (Nat → Int32) × (Nat → Int32) × (Nat → Int32) × Int32 × Int32 × (Nat → Int32) × (Nat → Int32) × Int32) => post r u.1 u.2.1 u.2.2.1 u.2.2.2.1 u.2.2.2.2.1 u.2.2.2.2.2.1 u.2.2.2.2.2.2.1 u.2.2.2.2.2.2.2.1 u.2.2.2.2.2.2.2.2.1 u.2.2.2.2.2.2.2.2.2) (rw_B (dC, dI) vwCl [(cI, .int), (cZ, .boolean)] A (fun u : (Nat → Int32) × (Nat → Int32) × (Nat → Int32) × (Nat → Int32) × (Nat → Int32) × Int32 × Int32 × (Nat → Int32) × (Nat → Int32) × Int32 => RSw cI cZ b0 bR bI bC bY bZ bF bL bN bX bT mcd mwd men mR u.1 u.2.1 u.2.2.1 u.2.2.2.1 u.2.2.2.2.1 u.2.2.2.2.2.1 u.2.2.2.2.2.2.1 u.2.2.2.2.2.2.2.1 u.2.2.2.2.2.2.2.2.1 u.2.2.2.2.2.2.2.2.2 mX mT mct mtk)) A) ([.ref b0, .int a1, .int a2, .int a3] : List Value).toArray s 0 0 A) (F0 m 89 ls []) := by
    intro y1_89 y2_89 y3_89 y4_89 mIf_89 mCf_89 mYf_89 mZf_89 mmdf_89 mhif_89 kx K n
    induction n with
    | zero => intro x5_89 mF_89 mL_89 mN_89 mfr_89 H locs ls hP hD hS hl h; exact h.elim
    | succ n ih =>
      intro x5_89 mF_89 mL_89 mN_89 mfr_89 H locs ls hP hD hS hl h
      refine lv_iload hx hb d_R_add_89 (lv_at hl 5 rfl) ?_
      refine lv_iload_n hx hb d_R_add_91 rfl (lv_at hl 2 rfl) ?_
      refine lv_iload_n hx hb d_R_add_92 rfl (lv_at hl 3 rfl) ?_
      refine rq_calli (W.runS (As := [.int y2_89, .int y3_89]) (rest := [.int x5_89]) ⟨hx, hb, hml, hown, hw⟩ (mR_cellsFor l y2_89 y3_89 _ h) (va_cwS 2 hw g_R_76 rfl rfl rfl (by decide +kernel) ⟨Nat.le_of_ble_eq_true rfl, Nat.le_of_ble_eq_true rfl⟩) preEq rfl rfl hl.1 rfl (lv_room (Nat.le_of_ble_eq_true rfl)) d_R_add_93 ⟨Nat.le_of_ble_eq_true rfl, Nat.le_of_ble_eq_true rfl⟩) (fun r93 h => ?_)
      refine lv_icmp_ge (tgt := 153) hx hb d_R_add_96 (by decide) (fun c_96 => ?_) (fun c_96 => ?_)
      · have h := h.1 c_96
        exact K x5_89 mF_89 mL_89 mN_89 mfr_89 H locs ls hP hD hS (lv_sub hl [0, 1, 2, 3, 4, 5] rfl) h
      · have h := h.2 c_96
        refine lv_aload_n hx hb d_R_add_99 rfl (lv_at hl 0 rfl) ?_
        refine va_get (D := (dC, dI)) (ci := 2) (v := .int mfr_89) (C := R_R) (T := T_R) (N := 18) hx hb hw in_R hown hK hP 0 rfl rfl 13 (by decide) (hw _ wd_629) (fun _ h9 => h9) rfl d_R_add_100 ?_
        refine lv_istore (lv' := [(6, .int mfr_89), (0, .ref b0), (1, .int y1_89), (2, .int y2_89), (3, .int y3_89), (4, .int y4_89), (5, .int x5_89)]) hx hb d_R_add_103 hl (by decide) rfl (fun ls hl => ?_)
        refine lv_aload_n hx hb d_R_add_105 rfl (lv_at hl 1 rfl) ?_
        refine lv_aload_n hx hb d_R_add_106 rfl (lv_at hl 1 rfl) ?_
        refine va_get (D := (dC, dI)) (ci := 2) (v := .ref bN) (C := R_R) (T := T_R) (N := 18) hx hb hw in_R hown hK hP 0 rfl rfl 12 (by decide) (hw _ wd_628) (fun _ h9 => h9) rfl d_R_add_107 ?_
        refine lv_iload hx hb d_R_add_110 (lv_at hl 0 rfl) ?_
        refine va_iald hx hb hK hP 8 0 rfl rfl h.1 d_R_add_112 ?_
        have h := h.2
        refine va_put (D := (dC, dI)) (ci := 2) (v := .int (mN_89 mfr_89.toNatClampNeg)) (ty := .int) (C := R_R) (T := T_R) (N := 18) hx hb hw in_R ty_R ty_R_ok nm_R hown hK hP hD hS 0 rfl rfl 13 (by decide) (hw _ wd_629) (fun _ h9 => h9) rfl (by decide +kernel) rfl rfl (Nat.le_of_ble_eq_true rfl) d_R_add_113 (fun H locs hP hD hS => ?_)
        have hP : va_P (dC, dI) vwCl (RSw cI cZ b0 bR bI bC bY bZ bF bL bN bX bT mcd mwd men mR mIf_89 mCf_89 mYf_89 mZf_89 mF_89 mmdf_89 mhif_89 mL_89 mN_89 (mN_89 mfr_89.toNatClampNeg) mX mT mct mtk) H := hP
        have hD : va_D A (RSw cI cZ b0 bR bI bC bY bZ bF bL bN bX bT mcd mwd men mR mIf_89 mCf_89 mYf_89 mZf_89 mF_89 mmdf_89 mhif_89 mL_89 mN_89 (mN_89 mfr_89.toNatClampNeg) mX mT mct mtk) := hD
        refine lv_aload_n hx hb d_R_add_116 rfl (lv_at hl 1 rfl) ?_
        refine va_get (D := (dC, dI)) (ci := 2) (v := .ref bL) (C := R_R) (T := T_R) (N := 18) hx hb hw in_R hown hK hP 0 rfl rfl 11 (by decide) (hw _ wd_627) (fun _ h9 => h9) rfl d_R_add_117 ?_
        refine lv_iload hx hb d_R_add_120 (lv_at hl 0 rfl) ?_
        refine lv_iconst (v := (0 : Int32)) hx hb d_R_add_122 (by decide) ?_
        refine va_iast hx hb hK hP hD hS 7 0 rfl rfl h.1 d_R_add_123 (fun H locs hP hD hS => ?_)
        have hP : va_P (dC, dI) vwCl (RSw cI cZ b0 bR bI bC bY bZ bF bL bN bX bT mcd mwd men mR mIf_89 mCf_89 mYf_89 mZf_89 mF_89 mmdf_89 mhif_89 (upd mL_89 mfr_89.toNatClampNeg (0 : Int32)) mN_89 (mN_89 mfr_89.toNatClampNeg) mX mT mct mtk) H := hP
        have hD : va_D A (RSw cI cZ b0 bR bI bC bY bZ bF bL bN bX bT mcd mwd men mR mIf_89 mCf_89 mYf_89 mZf_89 mF_89 mmdf_89 mhif_89 (upd mL_89 mfr_89.toNatClampNeg (0 : Int32)) mN_89 (mN_89 mfr_89.toNatClampNeg) mX mT mct mtk) := hD
        have h := h.2
        refine lv_aload_n hx hb d_R_add_124 rfl (lv_at hl 1 rfl) ?_
        refine va_get (D := (dC, dI)) (ci := 2) (v := .ref bN) (C := R_R) (T := T_R) (N := 18) hx hb hw in_R hown hK hP 0 rfl rfl 12 (by decide) (hw _ wd_628) (fun _ h9 => h9) rfl d_R_add_125 ?_
        refine lv_iload hx hb d_R_add_128 (lv_at hl 0 rfl) ?_
        refine lv_aload_n hx hb d_R_add_130 rfl (lv_at hl 1 rfl) ?_
        refine va_get (D := (dC, dI)) (ci := 2) (v := .ref bF) (C := R_R) (T := T_R) (N := 18) hx hb hw in_R hown hK hP 0 rfl rfl 8 (by decide) (hw _ wd_624) (fun _ h9 => h9) rfl d_R_add_131 ?_
        refine lv_iload hx hb d_R_add_134 (lv_at hl 5 rfl) ?_
        refine va_iald hx hb hK hP 6 0 rfl rfl h.1 d_R_add_136 ?_
        have h := h.2
        refine va_iast hx hb hK hP hD hS 8 0 rfl rfl h.1 d_R_add_137 (fun H locs hP hD hS => ?_)
        have hP : va_P (dC, dI) vwCl (RSw cI cZ b0 bR bI bC bY bZ bF bL bN bX bT mcd mwd men mR mIf_89 mCf_89 mYf_89 mZf_89 mF_89 mmdf_89 mhif_89 (upd mL_89 mfr_89.toNatClampNeg (0 : Int32)) (upd mN_89 mfr_89.toNatClampNeg (mF_89 y4_89.toNatClampNeg)) (mN_89 mfr_89.toNatClampNeg) mX mT mct mtk) H := hP
        have hD : va_D A (RSw cI cZ b0 bR bI bC bY bZ bF bL bN bX bT mcd mwd men mR mIf_89 mCf_89 mYf_89 mZf_89 mF_89 mmdf_89 mhif_89 (upd mL_89 mfr_89.toNatClampNeg (0 : Int32)) (upd mN_89 mfr_89.toNatClampNeg (mF_89 y4_89.toNatClampNeg)) (mN_89 mfr_89.toNatClampNeg) mX mT mct mtk) := hD
        have h := h.2
        refine lv_aload_n hx hb d_R_add_138 rfl (lv_at hl 1 rfl) ?_
        refine va_get (D := (dC, dI)) (ci := 2) (v := .ref bF) (C := R_R) (T := T_R) (N := 18) hx hb hw in_R hown hK hP 0 rfl rfl 8 (by decide) (hw _ wd_624) (fun _ h9 => h9) rfl d_R_add_139 ?_
        refine lv_iload hx hb d_R_add_142 (lv_at hl 5 rfl) ?_
        refine lv_iload hx hb d_R_add_144 (lv_at hl 0 rfl) ?_
        refine va_iast hx hb hK hP hD hS 6 0 rfl rfl h.1 d_R_add_146 (fun H locs hP hD hS => ?_)
        have hP : va_P (dC, dI) vwCl (RSw cI cZ b0 bR bI bC bY bZ bF bL bN bX bT mcd mwd men mR mIf_89 mCf_89 mYf_89 mZf_89 (upd mF_89 y4_89.toNatClampNeg mfr_89) mmdf_89 mhif_89 (upd mL_89 mfr_89.toNatClampNeg (0 : Int32)) (upd mN_89 mfr_89.toNatClampNeg (mF_89 y4_89.toNatClampNeg)) (mN_89 mfr_89.toNatClampNeg) mX mT mct mtk) H := hP
        have hD : va_D A (RSw cI cZ b0 bR bI bC bY bZ bF bL bN bX bT mcd mwd men mR mIf_89 mCf_89 mYf_89 mZf_89 (upd mF_89 y4_89.toNatClampNeg mfr_89) mmdf_89 mhif_89 (upd mL_89 mfr_89.toNatClampNeg (0 : Int32)) (upd mN_89 mfr_89.toNatClampNeg (mF_89 y4_89.toNatClampNeg)) (mN_89 mfr_89.toNatClampNeg) mX mT mct mtk) := hD
        have h := h.2
        refine lv_iinc (v := x5_89 + (1 : Int32)) (lv' := [(5, .int (x5_89 + (1 : Int32))), (6, .int mfr_89), (0, .ref b0), (1, .int y1_89), (2, .int y2_89), (3, .int y3_89), (4, .int y4_89)]) hx hb d_R_add_147 hl (k := 6) rfl rfl (by decide) rfl (fun ls hl => ?_)
        refine lv_goto (tgt := 89) hx hb d_R_add_150 (by decide) ?_
        exact ih (x5_89 + (1 : Int32)) (upd mF_89 y4_89.toNatClampNeg mfr_89) (upd mL_89 mfr_89.toNatClampNeg (0 : Int32)) (upd mN_89 mfr_89.toNatClampNeg (mF_89 y4_89.toNatClampNeg)) (mN_89 mfr_89.toNatClampNeg) H locs ls hP hD hS (lv_sub hl [2, 3, 4, 5, 6, 0] rfl) h
  have lp_6 : ∀ (y1_6 : Int32) (y2_6 : Int32) (y3_6 : Int32) (mIf_6 : Nat → Int32) (mCf_6 : Nat → Int32) (mYf_6 : Nat → Int32) (mZf_6 : Nat → Int32) (mFf_6 : Nat → Int32) (mmdf_6 : Int32) (mhif_6 : Int32) (mLf_6 : Nat → Int32) (mNf_6 : Nat → Int32) (mfrf_6 : Int32) (kx : Int32 → Prop), (∀ (z4_6 : Int32) (H : Heap) (locs : List Loc) (ls : Array Slot), va_P (dC, dI) vwCl (RSw cI cZ b0 bR bI bC bY bZ bF bL bN bX bT mcd mwd men mR mIf_6 mCf_6 mYf_6 mZf_6 mFf_6 mmdf_6 mhif_6 mLf_6 mNf_6 mfrf_6 mX mT mct mtk) H → va_D A (RSw cI cZ b0 bR bI bC bY bZ bF bL bN bX bT mcd mwd men mR mIf_6 mCf_6 mYf_6 mZf_6 mFf_6 mmdf_6 mhif_6 mLf_6 mNf_6 mfrf_6 mX mT mct mtk) → va_S A s.heap H locs → lv_has ls 7 [(0, .ref b0), (1, .int y1_6), (2, .int y2_6), (3, .int y3_6), (4, .int z4_6)] → kx z4_6 → W p l e (headSpec ws_R_add ({ frames := 1, cells := 0, slots := 0, locals := 21 })).room s m ([.ref b0, .int a1, .int a2, .int a3] : List Value).toArray below meth c H locs (0) (0) (MQ below (va_Qi (fun (r : Int32) (u : (Nat → Int32) × (Nat → Int32) × (Nat → Int32) × (Nat → Int32) × (Nat → Int32) × Int32 × Int32 × (Nat → Int32) × (Nat → Int32) × Int32) => post r u.1 u.2.1 u.2.2.1 u.2.2.2.1 u.2.2.2.2.1 u.2.2.2.2.2.1 u.2.2.2.2.2.2.1 u.2.2.2.2.2.2.2.1 u.2.2.2.2.2.2.2.2.1 u.2.2.2.2.2.2.2.2.2) (rw_B (dC, dI) vwCl [(cI, .int), (cZ, .boolean)] A (fun u : (Nat → Int32) × (Nat → Int32) × (Nat → Int32) × (Nat → Int32) × (Nat → Int32) × Int32 × Int32 × (Nat → Int32) × (Nat → Int32) × Int32 => RSw cI cZ b0 bR bI bC bY bZ bF bL bN bX bT mcd mwd men mR u.1 u.2.1 u.2.2.1 u.2.2.2.1 u.2.2.2.2.1 u.2.2.2.2.2.1 u.2.2.2.2.2.2.1 u.2.2.2.2.2.2.2.1 u.2.2.2.2.2.2.2.2.1 u.2.2.2.2.2.2.2.2.2 mX mT mct mtk)) A) ([.ref b0, .int a1, .int a2, .int a3] : List Value).toArray s 0 0 A) (F0 m 25 ls [])) → ∀ (n : Nat) (x4_6 : Int32) (H : Heap) (locs : List Loc) (ls : Array Slot), va_P (dC, dI) vwCl (RSw cI cZ b0 bR bI bC bY bZ bF bL bN bX bT mcd mwd men mR mIf_6 mCf_6 mYf_6 mZf_6 mFf_6 mmdf_6 mhif_6 mLf_6 mNf_6 mfrf_6 mX mT mct mtk) H → va_D A (RSw cI cZ b0 bR bI bC bY bZ bF bL bN bX bT mcd mwd men mR mIf_6 mCf_6 mYf_6 mZf_6 mFf_6 mmdf_6 mhif_6 mLf_6 mNf_6 mfrf_6 mX mT mct mtk) → va_S A s.heap H locs → lv_has ls 7 [(0, .ref b0), (1, .int y1_6), (2, .int y2_6), (3, .int y3_6), (4, .int x4_6)] → wqR_add_6 y1_6 y2_6 y3_6 mIf_6 mCf_6 mYf_6 mZf_6 mFf_6 mmdf_6 mhif_6 mLf_6 mNf_6 mfrf_6 post kx n x4_6 → W p l e (headSpec ws_R_add ({ frames := 1, cells := 0, slots := 0, locals := 21 })).room s m ([.ref b0, .int a1, .int a2, .int a3] : List Value).toArray below meth c H locs (0) (0) (MQ below (va_Qi (fun (r : Int32) (u : (Nat → Int32) × (Nat → Int32) × (Nat → Int32) × (Nat → Int32) × (Nat → Int32) × Int32 × Int32 × (Nat → Int32) × (Nat → Int32) × Int32) => post r u.1 u.2.1 u.2.2.1 u.2.2.2.1 u.2.2.2.2.1 u.2.2.2.2.2.1 u.2.2.2.2.2.2.1 u.2.2.2.2.2.2.2.1 u.2.2.2.2.2.2.2.2.1 u.2.2.2.2.2.2.2.2.2) (rw_B (dC, dI) vwCl [(cI, .int), (cZ, .boolean)] A (fun u : (Nat → Int32) × (Nat → Int32) × (Nat → Int32) × (Nat → Int32) × (Nat → Int32) × Int32 × Int32 × (Nat → Int32) × (Nat → Int32) × Int32 => RSw cI cZ b0 bR bI bC bY bZ bF bL bN bX bT mcd mwd men mR u.1 u.2.1 u.2.2.1 u.2.2.2.1 u.2.2.2.2.1 u.2.2.2.2.2.1 u.2.2.2.2.2.2.1 u.2.2.2.2.2.2.2.1 u.2.2.2.2.2.2.2.2.1 u.2.2.2.2.2.2.2.2.2 mX mT mct mtk)) A) ([.ref b0, .int a1, .int a2, .int a3] : List Value).toArray s 0 0 A) (F0 m 6 ls []) := by
    intro y1_6 y2_6 y3_6 mIf_6 mCf_6 mYf_6 mZf_6 mFf_6 mmdf_6 mhif_6 mLf_6 mNf_6 mfrf_6 kx K n
    induction n with
    | zero => intro x4_6 H locs ls hP hD hS hl h; exact h.elim
    | succ n ih =>
      intro x4_6 H locs ls hP hD hS hl h
      refine lv_aload_n hx hb d_R_add_6 rfl (lv_at hl 0 rfl) ?_
      refine va_get (D := (dC, dI)) (ci := 2) (v := .ref bI) (C := R_R) (T := T_R) (N := 18) hx hb hw in_R hown hK hP 0 rfl rfl 4 (by decide) (hw _ wd_620) (fun _ h9 => h9) rfl d_R_add_7 ?_
      refine lv_iload hx hb d_R_add_10 (lv_at hl 4 rfl) ?_
      refine va_iald hx hb hK hP 2 0 rfl rfl h.1 d_R_add_12 ?_
      have h := h.2
      refine lv_if_le (tgt := 25) hx hb d_R_add_13 (by decide) (fun c_13 => ?_) (fun c_13 => ?_)
      · have h := h.1 c_13
        exact K x4_6 H locs ls hP hD hS (lv_sub hl [0, 1, 2, 3, 4] rfl) h
      · have h := h.2 c_13
        refine lv_iload hx hb d_R_add_16 (lv_at hl 4 rfl) ?_
        refine lv_iconst (v := (1 : Int32)) hx hb d_R_add_18 (by decide) ?_
        refine lv_iadd hx hb d_R_add_19 ?_
        refine lv_istore (lv' := [(4, .int (x4_6 + (1 : Int32))), (0, .ref b0), (1, .int y1_6), (2, .int y2_6), (3, .int y3_6)]) hx hb d_R_add_20 hl (by decide) rfl (fun ls hl => ?_)
        refine lv_goto (tgt := 6) hx hb d_R_add_22 (by decide) ?_
        exact ih (x4_6 + (1 : Int32)) H locs ls hP hD hS (lv_sub hl [1, 2, 3, 4, 0] rfl) h
  unfold wqR_add at h
  refine lv_aload_n hx hb d_R_add_0 rfl (lv_at hl 0 rfl) ?_
  refine va_get (D := (dC, dI)) (ci := 2) (v := .int mhi) (C := R_R) (T := T_R) (N := 18) hx hb hw in_R hown hK hP 0 rfl rfl 10 (by decide) (hw _ wd_626) (fun _ h9 => h9) rfl d_R_add_1 ?_
  refine lv_istore (lv' := [(4, .int mhi), (0, .ref b0), (1, .int a1), (2, .int a2), (3, .int a3)]) hx hb d_R_add_4 hl (by decide) rfl (fun ls hl => ?_)
  obtain ⟨n_6, h⟩ := h
  refine lp_6 a1 a2 a3 mI mC mY mZ mF mmd mhi mL mN mfr _ (fun z4_6 H locs ls hP hD hS hl h => ?_) n_6 mhi s.heap [] ls hP hD hS (lv_sub hl [1, 2, 3, 4, 0] rfl) h
  refine lv_aload_n hx hb d_R_add_25 rfl (lv_at hl 0 rfl) ?_
  refine lv_iload hx hb d_R_add_26 (lv_at hl 4 rfl) ?_
  refine lv_iconst (v := (1 : Int32)) hx hb d_R_add_28 (by decide) ?_
  refine lv_iadd hx hb d_R_add_29 ?_
  refine va_put (D := (dC, dI)) (ci := 2) (v := .int (z4_6 + (1 : Int32))) (ty := .int) (C := R_R) (T := T_R) (N := 18) hx hb hw in_R ty_R ty_R_ok nm_R hown hK hP hD hS 0 rfl rfl 10 (by decide) (hw _ wd_626) (fun _ h9 => h9) rfl (by decide +kernel) rfl rfl (Nat.le_of_ble_eq_true rfl) d_R_add_30 (fun H locs hP hD hS => ?_)
  have hP : va_P (dC, dI) vwCl (RSw cI cZ b0 bR bI bC bY bZ bF bL bN bX bT mcd mwd men mR mI mC mY mZ mF mmd (z4_6 + (1 : Int32)) mL mN mfr mX mT mct mtk) H := hP
  have hD : va_D A (RSw cI cZ b0 bR bI bC bY bZ bF bL bN bX bT mcd mwd men mR mI mC mY mZ mF mmd (z4_6 + (1 : Int32)) mL mN mfr mX mT mct mtk) := hD
  refine lv_aload_n hx hb d_R_add_33 rfl (lv_at hl 0 rfl) ?_
  refine lv_aload_n hx hb d_R_add_34 rfl (lv_at hl 0 rfl) ?_
  refine va_get (D := (dC, dI)) (ci := 2) (v := .int mmd) (C := R_R) (T := T_R) (N := 18) hx hb hw in_R hown hK hP 0 rfl rfl 9 (by decide) (hw _ wd_625) (fun _ h9 => h9) rfl d_R_add_35 ?_
  refine lv_iconst (v := (1 : Int32)) hx hb d_R_add_38 (by decide) ?_
  refine lv_iadd hx hb d_R_add_39 ?_
  refine va_put (D := (dC, dI)) (ci := 2) (v := .int (mmd + (1 : Int32))) (ty := .int) (C := R_R) (T := T_R) (N := 18) hx hb hw in_R ty_R ty_R_ok nm_R hown hK hP hD hS 0 rfl rfl 9 (by decide) (hw _ wd_625) (fun _ h9 => h9) rfl (by decide +kernel) rfl rfl (Nat.le_of_ble_eq_true rfl) d_R_add_40 (fun H locs hP hD hS => ?_)
  have hP : va_P (dC, dI) vwCl (RSw cI cZ b0 bR bI bC bY bZ bF bL bN bX bT mcd mwd men mR mI mC mY mZ mF (mmd + (1 : Int32)) (z4_6 + (1 : Int32)) mL mN mfr mX mT mct mtk) H := hP
  have hD : va_D A (RSw cI cZ b0 bR bI bC bY bZ bF bL bN bX bT mcd mwd men mR mI mC mY mZ mF (mmd + (1 : Int32)) (z4_6 + (1 : Int32)) mL mN mfr mX mT mct mtk) := hD
  refine lv_aload_n hx hb d_R_add_43 rfl (lv_at hl 0 rfl) ?_
  refine va_get (D := (dC, dI)) (ci := 2) (v := .ref bI) (C := R_R) (T := T_R) (N := 18) hx hb hw in_R hown hK hP 0 rfl rfl 4 (by decide) (hw _ wd_620) (fun _ h9 => h9) rfl d_R_add_44 ?_
  refine lv_iload hx hb d_R_add_47 (lv_at hl 4 rfl) ?_
  refine lv_aload_n hx hb d_R_add_49 rfl (lv_at hl 0 rfl) ?_
  refine va_get (D := (dC, dI)) (ci := 2) (v := .int (mmd + (1 : Int32))) (C := R_R) (T := T_R) (N := 18) hx hb hw in_R hown hK hP 0 rfl rfl 9 (by decide) (hw _ wd_625) (fun _ h9 => h9) rfl d_R_add_50 ?_
  refine va_iast hx hb hK hP hD hS 2 0 rfl rfl h.1 d_R_add_53 (fun H locs hP hD hS => ?_)
  have hP : va_P (dC, dI) vwCl (RSw cI cZ b0 bR bI bC bY bZ bF bL bN bX bT mcd mwd men mR (upd mI z4_6.toNatClampNeg (mmd + (1 : Int32))) mC mY mZ mF (mmd + (1 : Int32)) (z4_6 + (1 : Int32)) mL mN mfr mX mT mct mtk) H := hP
  have hD : va_D A (RSw cI cZ b0 bR bI bC bY bZ bF bL bN bX bT mcd mwd men mR (upd mI z4_6.toNatClampNeg (mmd + (1 : Int32))) mC mY mZ mF (mmd + (1 : Int32)) (z4_6 + (1 : Int32)) mL mN mfr mX mT mct mtk) := hD
  have h := h.2
  refine lv_aload_n hx hb d_R_add_54 rfl (lv_at hl 0 rfl) ?_
  refine va_get (D := (dC, dI)) (ci := 2) (v := .ref bC) (C := R_R) (T := T_R) (N := 18) hx hb hw in_R hown hK hP 0 rfl rfl 5 (by decide) (hw _ wd_621) (fun _ h9 => h9) rfl d_R_add_55 ?_
  refine lv_iload hx hb d_R_add_58 (lv_at hl 4 rfl) ?_
  refine lv_iload_n hx hb d_R_add_60 rfl (lv_at hl 1 rfl) ?_
  refine va_iast hx hb hK hP hD hS 3 0 rfl rfl h.1 d_R_add_61 (fun H locs hP hD hS => ?_)
  have hP : va_P (dC, dI) vwCl (RSw cI cZ b0 bR bI bC bY bZ bF bL bN bX bT mcd mwd men mR (upd mI z4_6.toNatClampNeg (mmd + (1 : Int32))) (upd mC z4_6.toNatClampNeg a1) mY mZ mF (mmd + (1 : Int32)) (z4_6 + (1 : Int32)) mL mN mfr mX mT mct mtk) H := hP
  have hD : va_D A (RSw cI cZ b0 bR bI bC bY bZ bF bL bN bX bT mcd mwd men mR (upd mI z4_6.toNatClampNeg (mmd + (1 : Int32))) (upd mC z4_6.toNatClampNeg a1) mY mZ mF (mmd + (1 : Int32)) (z4_6 + (1 : Int32)) mL mN mfr mX mT mct mtk) := hD
  have h := h.2
  refine lv_aload_n hx hb d_R_add_62 rfl (lv_at hl 0 rfl) ?_
  refine va_get (D := (dC, dI)) (ci := 2) (v := .ref bY) (C := R_R) (T := T_R) (N := 18) hx hb hw in_R hown hK hP 0 rfl rfl 6 (by decide) (hw _ wd_622) (fun _ h9 => h9) rfl d_R_add_63 ?_
  refine lv_iload hx hb d_R_add_66 (lv_at hl 4 rfl) ?_
  refine lv_iload_n hx hb d_R_add_68 rfl (lv_at hl 3 rfl) ?_
  refine va_zast hx hb hK hP hD hS 4 1 rfl rfl h.1 d_R_add_69 (fun H locs hP hD hS => ?_)
  have hP : va_P (dC, dI) vwCl (RSw cI cZ b0 bR bI bC bY bZ bF bL bN bX bT mcd mwd men mR (upd mI z4_6.toNatClampNeg (mmd + (1 : Int32))) (upd mC z4_6.toNatClampNeg a1) (upd mY z4_6.toNatClampNeg (vp_nar .boolean a3)) mZ mF (mmd + (1 : Int32)) (z4_6 + (1 : Int32)) mL mN mfr mX mT mct mtk) H := hP
  have hD : va_D A (RSw cI cZ b0 bR bI bC bY bZ bF bL bN bX bT mcd mwd men mR (upd mI z4_6.toNatClampNeg (mmd + (1 : Int32))) (upd mC z4_6.toNatClampNeg a1) (upd mY z4_6.toNatClampNeg (vp_nar .boolean a3)) mZ mF (mmd + (1 : Int32)) (z4_6 + (1 : Int32)) mL mN mfr mX mT mct mtk) := hD
  have h := h.2
  refine lv_aload_n hx hb d_R_add_70 rfl (lv_at hl 0 rfl) ?_
  refine va_get (D := (dC, dI)) (ci := 2) (v := .ref bZ) (C := R_R) (T := T_R) (N := 18) hx hb hw in_R hown hK hP 0 rfl rfl 7 (by decide) (hw _ wd_623) (fun _ h9 => h9) rfl d_R_add_71 ?_
  refine lv_iload hx hb d_R_add_74 (lv_at hl 4 rfl) ?_
  refine lv_iload_n hx hb d_R_add_76 rfl (lv_at hl 2 rfl) ?_
  refine va_iast hx hb hK hP hD hS 5 0 rfl rfl h.1 d_R_add_77 (fun H locs hP hD hS => ?_)
  have hP : va_P (dC, dI) vwCl (RSw cI cZ b0 bR bI bC bY bZ bF bL bN bX bT mcd mwd men mR (upd mI z4_6.toNatClampNeg (mmd + (1 : Int32))) (upd mC z4_6.toNatClampNeg a1) (upd mY z4_6.toNatClampNeg (vp_nar .boolean a3)) (upd mZ z4_6.toNatClampNeg a2) mF (mmd + (1 : Int32)) (z4_6 + (1 : Int32)) mL mN mfr mX mT mct mtk) H := hP
  have hD : va_D A (RSw cI cZ b0 bR bI bC bY bZ bF bL bN bX bT mcd mwd men mR (upd mI z4_6.toNatClampNeg (mmd + (1 : Int32))) (upd mC z4_6.toNatClampNeg a1) (upd mY z4_6.toNatClampNeg (vp_nar .boolean a3)) (upd mZ z4_6.toNatClampNeg a2) mF (mmd + (1 : Int32)) (z4_6 + (1 : Int32)) mL mN mfr mX mT mct mtk) := hD
  have h := h.2
  refine lv_aload_n hx hb d_R_add_78 rfl (lv_at hl 0 rfl) ?_
  refine va_get (D := (dC, dI)) (ci := 2) (v := .ref bF) (C := R_R) (T := T_R) (N := 18) hx hb hw in_R hown hK hP 0 rfl rfl 8 (by decide) (hw _ wd_624) (fun _ h9 => h9) rfl d_R_add_79 ?_
  refine lv_iload hx hb d_R_add_82 (lv_at hl 4 rfl) ?_
  refine lv_iconst (v := (-1 : Int32)) hx hb d_R_add_84 (by decide) ?_
  refine va_iast hx hb hK hP hD hS 6 0 rfl rfl h.1 d_R_add_85 (fun H locs hP hD hS => ?_)
  have hP : va_P (dC, dI) vwCl (RSw cI cZ b0 bR bI bC bY bZ bF bL bN bX bT mcd mwd men mR (upd mI z4_6.toNatClampNeg (mmd + (1 : Int32))) (upd mC z4_6.toNatClampNeg a1) (upd mY z4_6.toNatClampNeg (vp_nar .boolean a3)) (upd mZ z4_6.toNatClampNeg a2) (upd mF z4_6.toNatClampNeg (-1 : Int32)) (mmd + (1 : Int32)) (z4_6 + (1 : Int32)) mL mN mfr mX mT mct mtk) H := hP
  have hD : va_D A (RSw cI cZ b0 bR bI bC bY bZ bF bL bN bX bT mcd mwd men mR (upd mI z4_6.toNatClampNeg (mmd + (1 : Int32))) (upd mC z4_6.toNatClampNeg a1) (upd mY z4_6.toNatClampNeg (vp_nar .boolean a3)) (upd mZ z4_6.toNatClampNeg a2) (upd mF z4_6.toNatClampNeg (-1 : Int32)) (mmd + (1 : Int32)) (z4_6 + (1 : Int32)) mL mN mfr mX mT mct mtk) := hD
  have h := h.2
  refine lv_iconst (v := (0 : Int32)) hx hb d_R_add_86 (by decide) ?_
  refine lv_istore (lv' := [(5, .int (0 : Int32)), (0, .ref b0), (1, .int a1), (2, .int a2), (3, .int a3), (4, .int z4_6)]) hx hb d_R_add_87 hl (by decide) rfl (fun ls hl => ?_)
  obtain ⟨n_89, h⟩ := h
  refine lp_89 a1 a2 a3 z4_6 (upd mI z4_6.toNatClampNeg (mmd + (1 : Int32))) (upd mC z4_6.toNatClampNeg a1) (upd mY z4_6.toNatClampNeg (vp_nar .boolean a3)) (upd mZ z4_6.toNatClampNeg a2) (mmd + (1 : Int32)) (z4_6 + (1 : Int32)) _ (fun z5_89 mFe_89 mLe_89 mNe_89 mfre_89 H locs ls hP hD hS hl h => ?_) n_89 (0 : Int32) (upd mF z4_6.toNatClampNeg (-1 : Int32)) mL mN mfr H locs ls hP hD hS (lv_sub hl [1, 2, 3, 4, 5, 0] rfl) h
  refine lv_iload hx hb d_R_add_153 (lv_at hl 4 rfl) ?_
  exact W.iret (v := z4_6) hx hb hr9 (fun t ht hW => ⟨⟨_, (upd mI z4_6.toNatClampNeg (mmd + (1 : Int32)), upd mC z4_6.toNatClampNeg a1, upd mY z4_6.toNatClampNeg (vp_nar .boolean a3), upd mZ z4_6.toNatClampNeg a2, mFe_89, mmd + (1 : Int32), z4_6 + (1 : Int32), mLe_89, mNe_89, mfre_89), rfl, h, by rw [ht]; exact hP, va_K.moved hW.alike hK, hD⟩, hS.F ht⟩) hS.2.2 d_R_add_155
def wqR_canMake_40 (mwd : Int32) (men : Int32) (mR : Nat → Int32) (mC : Nat → Int32) (mY : Nat → Int32) (mZ : Nat → Int32) (mF : Nat → Int32) (mL : Nat → Int32) (y1_40 : Int32) (y2_40 : Int32) (y3_40 : Int32) (mI_40 : Nat → Int32) (mhi_40 : Int32) (mN_40 : Nat → Int32) (mfr_40 : Int32) (mX_40 : Nat → Int32) (mT_40 : Nat → Int32) (mct_40 : Int32) (mtk_40 : Int32) (post : Int32 → (Nat → Int32) → Int32 → (Nat → Int32) → Int32 → (Nat → Int32) → (Nat → Int32) → Int32 → Int32 → Prop) : Prop :=
  (y3_40 = 0 → (narrow .boolean (.int y3_40) = .int y3_40 ∧ post y3_40 mI_40 mhi_40 mN_40 mfr_40 mX_40 mT_40 mct_40 mtk_40)) ∧ (¬ (y3_40 = 0) → (wqR_giveBack men mI_40 mF mhi_40 mN_40 mfr_40 mX_40 (fun mI_45 mhi_45 mN_45 mfr_45 => narrow .boolean (.int y3_40) = .int y3_40 ∧ post y3_40 mI_45 mhi_45 mN_45 mfr_45 mX_40 mT_40 mct_40 mtk_40)))
def wqR_canMake_38 (mwd : Int32) (men : Int32) (mR : Nat → Int32) (mC : Nat → Int32) (mY : Nat → Int32) (mZ : Nat → Int32) (mF : Nat → Int32) (mL : Nat → Int32) (y1_38 : Int32) (y2_38 : Int32) (mI_38 : Nat → Int32) (mhi_38 : Int32) (mN_38 : Nat → Int32) (mfr_38 : Int32) (mX_38 : Nat → Int32) (mT_38 : Nat → Int32) (mct_38 : Int32) (mtk_38 : Int32) (post : Int32 → (Nat → Int32) → Int32 → (Nat → Int32) → Int32 → (Nat → Int32) → (Nat → Int32) → Int32 → Int32 → Prop) : Prop :=
  wqR_canMake_40 mwd men mR mC mY mZ mF mL y1_38 y2_38 (0 : Int32) mI_38 mhi_38 mN_38 mfr_38 mX_38 mT_38 mct_38 mtk_38 post
def wqR_canMake (mwd : Int32) (men : Int32) (mR : Nat → Int32) (mI : Nat → Int32) (mC : Nat → Int32) (mY : Nat → Int32) (mZ : Nat → Int32) (mF : Nat → Int32) (mhi : Int32) (mL : Nat → Int32) (mN : Nat → Int32) (mfr : Int32) (mX : Nat → Int32) (mT : Nat → Int32) (mct : Int32) (mtk : Int32) (a1 : Int32) (a2 : Int32) (post : Int32 → (Nat → Int32) → Int32 → (Nat → Int32) → Int32 → (Nat → Int32) → (Nat → Int32) → Int32 → Int32 → Prop) : Prop :=
  wqR_reach men mR mC mY mZ mF mL mN mX mT mct mtk (fun mX_1 mT_1 mct_1 mtk_1 => wqR_cellsFor a1 a2 (fun r12 => (mwd < ((mtk_1 + (4 : Int32)) + r12) → (wqR_canMake_38 mwd men mR mC mY mZ mF mL a1 a2 mI mhi mN mfr mX_1 mT_1 mct_1 mtk_1 post)) ∧ (¬ (mwd < ((mtk_1 + (4 : Int32)) + r12)) → ((men ≤ mct_1 → (wqR_canMake_38 mwd men mR mC mY mZ mF mL a1 a2 mI mhi mN mfr mX_1 mT_1 mct_1 mtk_1 post)) ∧ (¬ (men ≤ mct_1) → (wqR_canMake_40 mwd men mR mC mY mZ mF mL a1 a2 (1 : Int32) mI mhi mN mfr mX_1 mT_1 mct_1 mtk_1 post))))))
set_option maxHeartbeats 4000000 in
set_option maxRecDepth 100000 in
theorem mR_canMake (l : Launch) (dC : Nat → ClassId) (dI : Nat → Nat → Nat) (cI : ClassId) (cZ : ClassId) (b0 : Nat) (bR : Nat) (bI : Nat) (bC : Nat) (bY : Nat) (bZ : Nat) (bF : Nat) (bL : Nat) (bN : Nat) (bX : Nat) (bT : Nat) (sz : Nat) (mcd : Int32) (mwd : Int32) (men : Int32) (mR : Nat → Int32) (mI : Nat → Int32) (mC : Nat → Int32) (mY : Nat → Int32) (mZ : Nat → Int32) (mF : Nat → Int32) (mmd : Int32) (mhi : Int32) (mL : Nat → Int32) (mN : Nat → Int32) (mfr : Int32) (mX : Nat → Int32) (mT : Nat → Int32) (mct : Int32) (mtk : Int32) (a1 : Int32) (a2 : Int32) (post : Int32 → (Nat → Int32) → Int32 → (Nat → Int32) → Int32 → (Nat → Int32) → (Nat → Int32) → Int32 → Int32 → Prop) (h : wqR_canMake mwd men mR mI mC mY mZ mF mhi mL mN mfr mX mT mct mtk a1 a2 post) : Met l y_R_canMake ws_R_canMake ({ frames := 4, cells := 0, slots := 0, locals := 85 }) (rw_P (dC, dI) vwCl (RSw cI cZ b0 bR bI bC bY bZ bF bL bN bX bT mcd mwd men mR mI mC mY mZ mF mmd mhi mL mN mfr mX mT mct mtk) [(cI, .int), (cZ, .boolean)] sz [.ref b0, .int a1, .int a2]) (va_Qi (fun (r : Int32) (u : (Nat → Int32) × Int32 × (Nat → Int32) × Int32 × (Nat → Int32) × (Nat → Int32) × Int32 × Int32) => post r u.1 u.2.1 u.2.2.1 u.2.2.2.1 u.2.2.2.2.1 u.2.2.2.2.2.1 u.2.2.2.2.2.2.1 u.2.2.2.2.2.2.2) (rw_B (dC, dI) vwCl [(cI, .int), (cZ, .boolean)] (va_A (RSw cI cZ b0 bR bI bC bY bZ bF bL bN bX bT mcd mwd men mR mI mC mY mZ mF mmd mhi mL mN mfr mX mT mct mtk) sz) (fun u : (Nat → Int32) × Int32 × (Nat → Int32) × Int32 × (Nat → Int32) × (Nat → Int32) × Int32 × Int32 => RSw cI cZ b0 bR bI bC bY bZ bF bL bN bX bT mcd mwd men mR u.1 mC mY mZ mF mmd u.2.1 mL u.2.2.1 u.2.2.2.1 u.2.2.2.2.1 u.2.2.2.2.2.1 u.2.2.2.2.2.2.1 u.2.2.2.2.2.2.2)) (va_A (RSw cI cZ b0 bR bI bC bY bZ bF bL bN bX bT mcd mwd men mR mI mC mY mZ mF mmd mhi mL mN mfr mX mT mct mtk) sz)) 0 0 (va_A (RSw cI cZ b0 bR bI bC bY bZ bF bL bN bX bT mcd mwd men mR mI mC mY mZ mF mmd mhi mL mN mfr mX mT mct mtk) sz) := by
  refine Met.ofW (cc := c_R_canMake) (maxL := 4) (ret := (some .boolean)) (by decide) rfl ?_
  intro p e s m args below meth c s₁ B hml hv
  obtain ⟨rfl, hsz, hP, hK, hD0⟩ := hv
  have hx := B.exec
  have hb := B.bytes
  have hr9 := B.returns
  have hts := atoms_spec (ws := ws_R_canMake) B.pre
  have hw : ∀ w ∈ WB_, w.before _ s = true := fun w h => hts w (List.mem_cons_of_mem _ h)
  have hown : s.vm.findClass R_R = some m.cls := findClass_of_methodNamed B.named
  have hlocks := B.notSynchronized
  subst hsz
  have hD := hD0.self (sz := s.heap.size)
  generalize hAe : va_A (RSw cI cZ b0 bR bI bC bY bZ bF bL bN bX bT mcd mwd men mR mI mC mY mZ mF mmd mhi mL mN mfr mX mT mct mtk) s.heap.size = A at hD ⊢
  have hA : ∀ q : Nat, s.heap.size ≤ q → A q := fun q h => by rw [← hAe]; exact Or.inr h
  have hS : va_S A s.heap s.heap [] := va_S.rf
  have hl := lv_entry ([.ref b0, .int a1, .int a2]) (n := 4) (Nat.le_of_ble_eq_true rfl)
  rw [lg_entry_eq]
  generalize (lg_sl ([.ref b0, .int a1, .int a2]) ++ List.replicate (4 - (lg_sl ([.ref b0, .int a1, .int a2])).length) Slot.unset).toArray = ls at hl ⊢
  have hl : lv_has ls 4 [(0, .ref b0), (1, .int a1), (2, .int a2)] := hl
  have lp_40 : ∀ (y1_40 : Int32) (y2_40 : Int32) (y3_40 : Int32) (mI_40 : Nat → Int32) (mhi_40 : Int32) (mN_40 : Nat → Int32) (mfr_40 : Int32) (mX_40 : Nat → Int32) (mT_40 : Nat → Int32) (mct_40 : Int32) (mtk_40 : Int32) (H : Heap) (locs : List Loc) (ls : Array Slot), va_P (dC, dI) vwCl (RSw cI cZ b0 bR bI bC bY bZ bF bL bN bX bT mcd mwd men mR mI_40 mC mY mZ mF mmd mhi_40 mL mN_40 mfr_40 mX_40 mT_40 mct_40 mtk_40) H → va_D A (RSw cI cZ b0 bR bI bC bY bZ bF bL bN bX bT mcd mwd men mR mI_40 mC mY mZ mF mmd mhi_40 mL mN_40 mfr_40 mX_40 mT_40 mct_40 mtk_40) → va_S A s.heap H locs → lv_has ls 4 [(0, .ref b0), (1, .int y1_40), (2, .int y2_40), (3, .int y3_40)] → wqR_canMake_40 mwd men mR mC mY mZ mF mL y1_40 y2_40 y3_40 mI_40 mhi_40 mN_40 mfr_40 mX_40 mT_40 mct_40 mtk_40 post → W p l e (headSpec ws_R_canMake ({ frames := 4, cells := 0, slots := 0, locals := 85 })).room s m ([.ref b0, .int a1, .int a2] : List Value).toArray below meth c H locs (0) (0) (MQ below (va_Qi (fun (r : Int32) (u : (Nat → Int32) × Int32 × (Nat → Int32) × Int32 × (Nat → Int32) × (Nat → Int32) × Int32 × Int32) => post r u.1 u.2.1 u.2.2.1 u.2.2.2.1 u.2.2.2.2.1 u.2.2.2.2.2.1 u.2.2.2.2.2.2.1 u.2.2.2.2.2.2.2) (rw_B (dC, dI) vwCl [(cI, .int), (cZ, .boolean)] A (fun u : (Nat → Int32) × Int32 × (Nat → Int32) × Int32 × (Nat → Int32) × (Nat → Int32) × Int32 × Int32 => RSw cI cZ b0 bR bI bC bY bZ bF bL bN bX bT mcd mwd men mR u.1 mC mY mZ mF mmd u.2.1 mL u.2.2.1 u.2.2.2.1 u.2.2.2.2.1 u.2.2.2.2.2.1 u.2.2.2.2.2.2.1 u.2.2.2.2.2.2.2)) A) ([.ref b0, .int a1, .int a2] : List Value).toArray s 0 0 A) (F0 m 40 ls []) := by
    intro y1_40 y2_40 y3_40 mI_40 mhi_40 mN_40 mfr_40 mX_40 mT_40 mct_40 mtk_40 H locs ls hP hD hS hl h
    unfold wqR_canMake_40 at h
    refine lv_iload_n hx hb d_R_canMake_40 rfl (lv_at hl 3 rfl) ?_
    refine lv_if_eq (tgt := 48) hx hb d_R_canMake_41 (by decide) (fun c_41 => ?_) (fun c_41 => ?_)
    · have h := h.1 c_41
      refine lv_iload_n hx hb d_R_canMake_48 rfl (lv_at hl 3 rfl) ?_
      exact W.zret (v := y3_40) (ty := .boolean) hx hb hr9 h.1 (fun t ht hW => ⟨⟨_, (mI_40, mhi_40, mN_40, mfr_40, mX_40, mT_40, mct_40, mtk_40), rfl, h.2, by rw [ht]; exact hP, va_K.moved hW.alike hK, hD⟩, hS.F ht⟩) hS.2.2 d_R_canMake_49
    · have h := h.2 c_41
      refine lv_aload_n hx hb d_R_canMake_44 rfl (lv_at hl 0 rfl) ?_
      have hFc := va_free (wc := RSw cI cZ b0 bR bI bC bY bZ bF bL bN bX bT mcd mwd men mR mI_40 mC mY mZ mF mmd mhi_40 mL mN_40 mfr_40 mX_40 mT_40 mct_40 mtk_40) hD hS hA [0, 1, 2, 3, 4, 5, 6, 7, 8, 9, 10] rfl
      refine va_callv (va_runV (As := []) (rest := []) ⟨hx, hb, hml, hown, hw⟩ (mR_giveBack l dC dI cI cZ b0 bR bI bC bY bZ bF bL bN bX bT H.size mcd mwd men mR mI_40 mC mY mZ mF mmd mhi_40 mL mN_40 mfr_40 mX_40 mT_40 mct_40 mtk_40 _ h) (cwV 0 hw g_R_98 rfl rfl rfl (by decide +kernel) ⟨Nat.le_of_ble_eq_true rfl, Nat.le_of_ble_eq_true rfl⟩) (rw_PV (ci := 2) (q0 := 0) hK hP hD rfl rfl) rfl rfl hl.1 rfl (lv_room (Nat.le_of_ble_eq_true rfl)) d_R_canMake_45 ⟨Nat.le_of_ble_eq_true rfl, Nat.le_of_ble_eq_true rfl⟩) hS (fun q _ h => hFc q h) hFc (fun u t H locs ht hvm h hB hz1 hk1 hS => ?_)
      obtain ⟨mI_45, mhi_45, mN_45, mfr_45⟩ := u
      obtain ⟨hP, hK1, hD1⟩ := hB
      rw [ht] at hP
      have hD := hD1.weaken (fun _ _ _ q => hFc _ q)
      clear hFc hD1 hK1
      try dsimp only at h
      have hP : va_P (dC, dI) vwCl (RSw cI cZ b0 bR bI bC bY bZ bF bL bN bX bT mcd mwd men mR mI_45 mC mY mZ mF mmd mhi_45 mL mN_45 mfr_45 mX_40 mT_40 mct_40 mtk_40) H := hP
      have hD : va_D A (RSw cI cZ b0 bR bI bC bY bZ bF bL bN bX bT mcd mwd men mR mI_45 mC mY mZ mF mmd mhi_45 mL mN_45 mfr_45 mX_40 mT_40 mct_40 mtk_40) := hD
      refine lv_iload_n hx hb d_R_canMake_48 rfl (lv_at hl 3 rfl) ?_
      exact W.zret (v := y3_40) (ty := .boolean) hx hb hr9 h.1 (fun t ht hW => ⟨⟨_, (mI_45, mhi_45, mN_45, mfr_45, mX_40, mT_40, mct_40, mtk_40), rfl, h.2, by rw [ht]; exact hP, va_K.moved hW.alike hK, hD⟩, hS.F ht⟩) hS.2.2 d_R_canMake_49
  have lp_38 : ∀ (y1_38 : Int32) (y2_38 : Int32) (mI_38 : Nat → Int32) (mhi_38 : Int32) (mN_38 : Nat → Int32) (mfr_38 : Int32) (mX_38 : Nat → Int32) (mT_38 : Nat → Int32) (mct_38 : Int32) (mtk_38 : Int32) (H : Heap) (locs : List Loc) (ls : Array Slot), va_P (dC, dI) vwCl (RSw cI cZ b0 bR bI bC bY bZ bF bL bN bX bT mcd mwd men mR mI_38 mC mY mZ mF mmd mhi_38 mL mN_38 mfr_38 mX_38 mT_38 mct_38 mtk_38) H → va_D A (RSw cI cZ b0 bR bI bC bY bZ bF bL bN bX bT mcd mwd men mR mI_38 mC mY mZ mF mmd mhi_38 mL mN_38 mfr_38 mX_38 mT_38 mct_38 mtk_38) → va_S A s.heap H locs → lv_has ls 4 [(0, .ref b0), (1, .int y1_38), (2, .int y2_38)] → wqR_canMake_38 mwd men mR mC mY mZ mF mL y1_38 y2_38 mI_38 mhi_38 mN_38 mfr_38 mX_38 mT_38 mct_38 mtk_38 post → W p l e (headSpec ws_R_canMake ({ frames := 4, cells := 0, slots := 0, locals := 85 })).room s m ([.ref b0, .int a1, .int a2] : List Value).toArray below meth c H locs (0) (0) (MQ below (va_Qi (fun (r : Int32) (u : (Nat → Int32) × Int32 × (Nat → Int32) × Int32 × (Nat → Int32) × (Nat → Int32) × Int32 × Int32) => post r u.1 u.2.1 u.2.2.1 u.2.2.2.1 u.2.2.2.2.1 u.2.2.2.2.2.1 u.2.2.2.2.2.2.1 u.2.2.2.2.2.2.2) (rw_B (dC, dI) vwCl [(cI, .int), (cZ, .boolean)] A (fun u : (Nat → Int32) × Int32 × (Nat → Int32) × Int32 × (Nat → Int32) × (Nat → Int32) × Int32 × Int32 => RSw cI cZ b0 bR bI bC bY bZ bF bL bN bX bT mcd mwd men mR u.1 mC mY mZ mF mmd u.2.1 mL u.2.2.1 u.2.2.2.1 u.2.2.2.2.1 u.2.2.2.2.2.1 u.2.2.2.2.2.2.1 u.2.2.2.2.2.2.2)) A) ([.ref b0, .int a1, .int a2] : List Value).toArray s 0 0 A) (F0 m 38 ls []) := by
    intro y1_38 y2_38 mI_38 mhi_38 mN_38 mfr_38 mX_38 mT_38 mct_38 mtk_38 H locs ls hP hD hS hl h
    unfold wqR_canMake_38 at h
    refine lv_iconst (v := (0 : Int32)) hx hb d_R_canMake_38 (by decide) ?_
    refine lv_istore_n (lv' := [(3, .int (0 : Int32)), (0, .ref b0), (1, .int y1_38), (2, .int y2_38)]) hx hb d_R_canMake_39 rfl hl (by decide) rfl (fun ls hl => ?_)
    exact lp_40 y1_38 y2_38 (0 : Int32) mI_38 mhi_38 mN_38 mfr_38 mX_38 mT_38 mct_38 mtk_38 H locs ls hP hD hS (lv_sub hl [1, 2, 3, 0] rfl) h
  unfold wqR_canMake at h
  refine lv_aload_n hx hb d_R_canMake_0 rfl (lv_at hl 0 rfl) ?_
  have hFc := va_free (wc := RSw cI cZ b0 bR bI bC bY bZ bF bL bN bX bT mcd mwd men mR mI mC mY mZ mF mmd mhi mL mN mfr mX mT mct mtk) hD hS hA [0, 1, 2, 3, 4, 5, 6, 7, 8, 9, 10] rfl
  refine va_callv (va_runV (As := []) (rest := []) ⟨hx, hb, hml, hown, hw⟩ (mR_reach l dC dI cI cZ b0 bR bI bC bY bZ bF bL bN bX bT s.heap.size mcd mwd men mR mI mC mY mZ mF mmd mhi mL mN mfr mX mT mct mtk _ h) (cwV 0 hw g_R_95 rfl rfl rfl (by decide +kernel) ⟨Nat.le_of_ble_eq_true rfl, Nat.le_of_ble_eq_true rfl⟩) (rw_PV (ci := 2) (q0 := 0) hK hP hD rfl rfl) rfl rfl hl.1 rfl (lv_room (Nat.le_of_ble_eq_true rfl)) d_R_canMake_1 ⟨Nat.le_of_ble_eq_true rfl, Nat.le_of_ble_eq_true rfl⟩) hS (fun q _ h => hFc q h) hFc (fun u t H locs ht hvm h hB hz1 hk1 hS => ?_)
  obtain ⟨mX_1, mT_1, mct_1, mtk_1⟩ := u
  obtain ⟨hP, hK1, hD1⟩ := hB
  rw [ht] at hP
  have hD := hD1.weaken (fun _ _ _ q => hFc _ q)
  clear hFc hD1 hK1
  try dsimp only at h
  have hP : va_P (dC, dI) vwCl (RSw cI cZ b0 bR bI bC bY bZ bF bL bN bX bT mcd mwd men mR mI mC mY mZ mF mmd mhi mL mN mfr mX_1 mT_1 mct_1 mtk_1) H := hP
  have hD : va_D A (RSw cI cZ b0 bR bI bC bY bZ bF bL bN bX bT mcd mwd men mR mI mC mY mZ mF mmd mhi mL mN mfr mX_1 mT_1 mct_1 mtk_1) := hD
  refine lv_aload_n hx hb d_R_canMake_4 rfl (lv_at hl 0 rfl) ?_
  refine va_get (D := (dC, dI)) (ci := 2) (v := .int mtk_1) (C := R_R) (T := T_R) (N := 18) hx hb hw in_R hown hK hP 0 rfl rfl 17 (by decide) (hw _ wd_633) (fun _ h9 => h9) rfl d_R_canMake_5 ?_
  refine lv_iconst (v := (4 : Int32)) hx hb d_R_canMake_8 (by decide) ?_
  refine lv_iadd hx hb d_R_canMake_9 ?_
  refine lv_iload_n hx hb d_R_canMake_10 rfl (lv_at hl 1 rfl) ?_
  refine lv_iload_n hx hb d_R_canMake_11 rfl (lv_at hl 2 rfl) ?_
  refine rq_calli (W.runS (As := [.int a1, .int a2]) (rest := [.int (mtk_1 + (4 : Int32))]) ⟨hx, hb, hml, hown, hw⟩ (mR_cellsFor l a1 a2 _ h) (va_cwS 2 hw g_R_76 rfl rfl rfl (by decide +kernel) ⟨Nat.le_of_ble_eq_true rfl, Nat.le_of_ble_eq_true rfl⟩) preEq rfl rfl hl.1 rfl (lv_room (Nat.le_of_ble_eq_true rfl)) d_R_canMake_12 ⟨Nat.le_of_ble_eq_true rfl, Nat.le_of_ble_eq_true rfl⟩) (fun r12 h => ?_)
  refine lv_iadd hx hb d_R_canMake_15 ?_
  refine lv_aload_n hx hb d_R_canMake_16 rfl (lv_at hl 0 rfl) ?_
  refine va_get (D := (dC, dI)) (ci := 2) (v := .int mwd) (C := R_R) (T := T_R) (N := 18) hx hb hw in_R hown hK hP 0 rfl rfl 1 (by decide) (hw _ wd_617) (fun _ h9 => h9) rfl d_R_canMake_17 ?_
  refine lv_icmp_gt (tgt := 38) hx hb d_R_canMake_20 (by decide) (fun c_20 => ?_) (fun c_20 => ?_)
  · have h := h.1 c_20
    exact lp_38 a1 a2 mI mhi mN mfr mX_1 mT_1 mct_1 mtk_1 H locs ls hP hD hS (lv_sub hl [0, 1, 2] rfl) h
  · have h := h.2 c_20
    refine lv_aload_n hx hb d_R_canMake_23 rfl (lv_at hl 0 rfl) ?_
    refine va_get (D := (dC, dI)) (ci := 2) (v := .int mct_1) (C := R_R) (T := T_R) (N := 18) hx hb hw in_R hown hK hP 0 rfl rfl 16 (by decide) (hw _ wd_632) (fun _ h9 => h9) rfl d_R_canMake_24 ?_
    refine lv_aload_n hx hb d_R_canMake_27 rfl (lv_at hl 0 rfl) ?_
    refine va_get (D := (dC, dI)) (ci := 2) (v := .int men) (C := R_R) (T := T_R) (N := 18) hx hb hw in_R hown hK hP 0 rfl rfl 2 (by decide) (hw _ wd_618) (fun _ h9 => h9) rfl d_R_canMake_28 ?_
    refine lv_icmp_ge (tgt := 38) hx hb d_R_canMake_31 (by decide) (fun c_31 => ?_) (fun c_31 => ?_)
    · have h := h.1 c_31
      exact lp_38 a1 a2 mI mhi mN mfr mX_1 mT_1 mct_1 mtk_1 H locs ls hP hD hS (lv_sub hl [0, 1, 2] rfl) h
    · have h := h.2 c_31
      refine lv_iconst (v := (1 : Int32)) hx hb d_R_canMake_34 (by decide) ?_
      refine lv_goto (tgt := 39) hx hb d_R_canMake_35 (by decide) ?_
      refine lv_istore_n (lv' := [(3, .int (1 : Int32)), (0, .ref b0), (1, .int a1), (2, .int a2)]) hx hb d_R_canMake_39 rfl hl (by decide) rfl (fun ls hl => ?_)
      exact lp_40 a1 a2 (1 : Int32) mI mhi mN mfr mX_1 mT_1 mct_1 mtk_1 H locs ls hP hD hS (lv_sub hl [1, 2, 3, 0] rfl) h
def wqR_setByte (mF : Nat → Int32) (mL : Nat → Int32) (mN : Nat → Int32) (a1 : Int32) (a2 : Int32) (a3 : Int32) (post : (Nat → Int32) → Prop) : Prop :=
  wqR_cellAt mF mN a1 (a2 / (4 : Int32)) (fun r5 => vp_in r5 65536 ∧ (vp_in r5 65536 ∧ (post (upd mL r5.toNatClampNeg (((mL r5.toNatClampNeg) &&& (((255 : Int32) <<< (((24 : Int32) - ((8 : Int32) * (a2 - a2 / (4 : Int32) * (4 : Int32)))) &&& 31)) ^^^ (-1 : Int32))) ||| (a3 <<< (((24 : Int32) - ((8 : Int32) * (a2 - a2 / (4 : Int32) * (4 : Int32)))) &&& 31)))))))
set_option maxHeartbeats 4000000 in
set_option maxRecDepth 100000 in
theorem mR_setByte (l : Launch) (dC : Nat → ClassId) (dI : Nat → Nat → Nat) (cI : ClassId) (cZ : ClassId) (b0 : Nat) (bR : Nat) (bI : Nat) (bC : Nat) (bY : Nat) (bZ : Nat) (bF : Nat) (bL : Nat) (bN : Nat) (bX : Nat) (bT : Nat) (sz : Nat) (mcd : Int32) (mwd : Int32) (men : Int32) (mR : Nat → Int32) (mI : Nat → Int32) (mC : Nat → Int32) (mY : Nat → Int32) (mZ : Nat → Int32) (mF : Nat → Int32) (mmd : Int32) (mhi : Int32) (mL : Nat → Int32) (mN : Nat → Int32) (mfr : Int32) (mX : Nat → Int32) (mT : Nat → Int32) (mct : Int32) (mtk : Int32) (a1 : Int32) (a2 : Int32) (a3 : Int32) (post : (Nat → Int32) → Prop) (h : wqR_setByte mF mL mN a1 a2 a3 post) : Met l y_R_setByte ws_R_setByte ({ frames := 1, cells := 0, slots := 0, locals := 24 }) (rw_P (dC, dI) vwCl (RSw cI cZ b0 bR bI bC bY bZ bF bL bN bX bT mcd mwd men mR mI mC mY mZ mF mmd mhi mL mN mfr mX mT mct mtk) [(cI, .int), (cZ, .boolean)] sz [.ref b0, .int a1, .int a2, .int a3]) (va_Qv (fun u : (Nat → Int32) => post u) (rw_B (dC, dI) vwCl [(cI, .int), (cZ, .boolean)] (va_A (RSw cI cZ b0 bR bI bC bY bZ bF bL bN bX bT mcd mwd men mR mI mC mY mZ mF mmd mhi mL mN mfr mX mT mct mtk) sz) (fun u : (Nat → Int32) => RSw cI cZ b0 bR bI bC bY bZ bF bL bN bX bT mcd mwd men mR mI mC mY mZ mF mmd mhi u mN mfr mX mT mct mtk)) (va_A (RSw cI cZ b0 bR bI bC bY bZ bF bL bN bX bT mcd mwd men mR mI mC mY mZ mF mmd mhi mL mN mfr mX mT mct mtk) sz)) 0 0 (va_A (RSw cI cZ b0 bR bI bC bY bZ bF bL bN bX bT mcd mwd men mR mI mC mY mZ mF mmd mhi mL mN mfr mX mT mct mtk) sz) := by
  refine Met.ofW (cc := c_R_setByte) (maxL := 6) (ret := none) (by decide) rfl ?_
  intro p e s m args below meth c s₁ B hml hv
  obtain ⟨rfl, hsz, hP, hK, hD0⟩ := hv
  have hx := B.exec
  have hb := B.bytes
  have hr9 := B.returns
  have hts := atoms_spec (ws := ws_R_setByte) B.pre
  have hw : ∀ w ∈ WB_, w.before _ s = true := fun w h => hts w (List.mem_cons_of_mem _ h)
  have hown : s.vm.findClass R_R = some m.cls := findClass_of_methodNamed B.named
  have hlocks := B.notSynchronized
  subst hsz
  have hD := hD0.self (sz := s.heap.size)
  generalize hAe : va_A (RSw cI cZ b0 bR bI bC bY bZ bF bL bN bX bT mcd mwd men mR mI mC mY mZ mF mmd mhi mL mN mfr mX mT mct mtk) s.heap.size = A at hD ⊢
  have hA : ∀ q : Nat, s.heap.size ≤ q → A q := fun q h => by rw [← hAe]; exact Or.inr h
  have hS : va_S A s.heap s.heap [] := va_S.rf
  have hl := lv_entry ([.ref b0, .int a1, .int a2, .int a3]) (n := 6) (Nat.le_of_ble_eq_true rfl)
  rw [lg_entry_eq]
  generalize (lg_sl ([.ref b0, .int a1, .int a2, .int a3]) ++ List.replicate (6 - (lg_sl ([.ref b0, .int a1, .int a2, .int a3])).length) Slot.unset).toArray = ls at hl ⊢
  have hl : lv_has ls 6 [(0, .ref b0), (1, .int a1), (2, .int a2), (3, .int a3)] := hl
  unfold wqR_setByte at h
  refine lv_aload_n hx hb d_R_setByte_0 rfl (lv_at hl 0 rfl) ?_
  refine lv_iload_n hx hb d_R_setByte_1 rfl (lv_at hl 1 rfl) ?_
  refine lv_iload_n hx hb d_R_setByte_2 rfl (lv_at hl 2 rfl) ?_
  refine lv_iconst (v := (4 : Int32)) hx hb d_R_setByte_3 (by decide) ?_
  refine lv_idiv hx hb d_R_setByte_4 (by decide) ?_
  refine rq_calli (W.runV (As := [.int a1, .int (a2 / (4 : Int32))]) (rest := []) ⟨hx, hb, hml, hown, hw⟩ (mR_cellAt l dC dI cI cZ b0 bR bI bC bY bZ bF bL bN bX bT mcd mwd men mR mI mC mY mZ mF mmd mhi mL mN mfr mX mT mct mtk a1 (a2 / (4 : Int32)) _ h) (cwV 2 hw g_R_123 rfl rfl rfl (by decide +kernel) ⟨Nat.le_of_ble_eq_true rfl, Nat.le_of_ble_eq_true rfl⟩) (ro_PV (ci := 2) (q0 := 0) hK hP rfl rfl) rfl rfl hl.1 rfl (lv_room (Nat.le_of_ble_eq_true rfl)) d_R_setByte_5 ⟨Nat.le_of_ble_eq_true rfl, Nat.le_of_ble_eq_true rfl⟩) (fun r5 h => ?_)
  refine lv_istore (lv' := [(4, .int r5), (0, .ref b0), (1, .int a1), (2, .int a2), (3, .int a3)]) hx hb d_R_setByte_8 hl (by decide) rfl (fun ls hl => ?_)
  refine lv_bipush (v := (24 : Int32)) hx hb d_R_setByte_10 (by decide) ?_
  refine lv_bipush (v := (8 : Int32)) hx hb d_R_setByte_12 (by decide) ?_
  refine lv_iload_n hx hb d_R_setByte_14 rfl (lv_at hl 3 rfl) ?_
  refine lv_iconst (v := (4 : Int32)) hx hb d_R_setByte_15 (by decide) ?_
  refine lv_irem hx hb d_R_setByte_16 (by decide) ?_
  refine lv_imul hx hb d_R_setByte_17 ?_
  refine lv_isub hx hb d_R_setByte_18 ?_
  refine lv_istore (lv' := [(5, .int ((24 : Int32) - ((8 : Int32) * (a2 - a2 / (4 : Int32) * (4 : Int32))))), (4, .int r5), (0, .ref b0), (1, .int a1), (2, .int a2), (3, .int a3)]) hx hb d_R_setByte_19 hl (by decide) rfl (fun ls hl => ?_)
  refine lv_aload_n hx hb d_R_setByte_21 rfl (lv_at hl 2 rfl) ?_
  refine va_get (D := (dC, dI)) (ci := 2) (v := .ref bL) (C := R_R) (T := T_R) (N := 18) hx hb hw in_R hown hK hP 0 rfl rfl 11 (by decide) (hw _ wd_627) (fun _ h9 => h9) rfl d_R_setByte_22 ?_
  refine lv_iload hx hb d_R_setByte_25 (lv_at hl 1 rfl) ?_
  refine lv_aload_n hx hb d_R_setByte_27 rfl (lv_at hl 2 rfl) ?_
  refine va_get (D := (dC, dI)) (ci := 2) (v := .ref bL) (C := R_R) (T := T_R) (N := 18) hx hb hw in_R hown hK hP 0 rfl rfl 11 (by decide) (hw _ wd_627) (fun _ h9 => h9) rfl d_R_setByte_28 ?_
  refine lv_iload hx hb d_R_setByte_31 (lv_at hl 1 rfl) ?_
  refine va_iald hx hb hK hP 7 0 rfl rfl h.1 d_R_setByte_33 ?_
  have h := h.2
  refine lv_sipush (v := (255 : Int32)) hx hb d_R_setByte_34 (by decide) ?_
  refine lv_iload hx hb d_R_setByte_37 (lv_at hl 0 rfl) ?_
  refine lv_ishl hx hb d_R_setByte_39 ?_
  refine lv_iconst (v := (-1 : Int32)) hx hb d_R_setByte_40 (by decide) ?_
  refine lv_ixor hx hb d_R_setByte_41 ?_
  refine lv_iand hx hb d_R_setByte_42 ?_
  refine lv_iload_n hx hb d_R_setByte_43 rfl (lv_at hl 5 rfl) ?_
  refine lv_iload hx hb d_R_setByte_44 (lv_at hl 0 rfl) ?_
  refine lv_ishl hx hb d_R_setByte_46 ?_
  refine lv_ior hx hb d_R_setByte_47 ?_
  refine va_iast hx hb hK hP hD hS 7 0 rfl rfl h.1 d_R_setByte_48 (fun H locs hP hD hS => ?_)
  have hP : va_P (dC, dI) vwCl (RSw cI cZ b0 bR bI bC bY bZ bF bL bN bX bT mcd mwd men mR mI mC mY mZ mF mmd mhi (upd mL r5.toNatClampNeg (((mL r5.toNatClampNeg) &&& (((255 : Int32) <<< (((24 : Int32) - ((8 : Int32) * (a2 - a2 / (4 : Int32) * (4 : Int32)))) &&& 31)) ^^^ (-1 : Int32))) ||| (a3 <<< (((24 : Int32) - ((8 : Int32) * (a2 - a2 / (4 : Int32) * (4 : Int32)))) &&& 31)))) mN mfr mX mT mct mtk) H := hP
  have hD : va_D A (RSw cI cZ b0 bR bI bC bY bZ bF bL bN bX bT mcd mwd men mR mI mC mY mZ mF mmd mhi (upd mL r5.toNatClampNeg (((mL r5.toNatClampNeg) &&& (((255 : Int32) <<< (((24 : Int32) - ((8 : Int32) * (a2 - a2 / (4 : Int32) * (4 : Int32)))) &&& 31)) ^^^ (-1 : Int32))) ||| (a3 <<< (((24 : Int32) - ((8 : Int32) * (a2 - a2 / (4 : Int32) * (4 : Int32)))) &&& 31)))) mN mfr mX mT mct mtk) := hD
  have h := h.2
  exact W.vret hx hb hr9 (fun t ht hW => ⟨⟨(upd mL r5.toNatClampNeg (((mL r5.toNatClampNeg) &&& (((255 : Int32) <<< (((24 : Int32) - ((8 : Int32) * (a2 - a2 / (4 : Int32) * (4 : Int32)))) &&& 31)) ^^^ (-1 : Int32))) ||| (a3 <<< (((24 : Int32) - ((8 : Int32) * (a2 - a2 / (4 : Int32) * (4 : Int32)))) &&& 31)))), rfl, h, by rw [ht]; exact hP, va_K.moved hW.alike hK, hD⟩, hS.F ht⟩) hS.2.2 d_R_setByte_49
def wqR_number_28 (y1_28 : Int32) (y2_28 : Int32) (mcd_28 : Int32) (mR_28 : Nat → Int32) (post : Int32 → (Nat → Int32) → Prop) : Prop :=
  (mcd_28 = 0 → (vp_in y1_28 32 ∧ (post mcd_28 (upd mR_28 y1_28.toNatClampNeg (((2 : Int32) * y2_28) + (1 : Int32)))))) ∧ (¬ (mcd_28 = 0) → (post mcd_28 mR_28))
def wqR_number (mcd : Int32) (mR : Nat → Int32) (a1 : Int32) (a2 : Int32) (post : Int32 → (Nat → Int32) → Prop) : Prop :=
  wqR_isRegister a1 (fun r2 => (r2 = 0 → (wqR_number_28 a1 a2 (1 : Int32) mR post)) ∧ (¬ (r2 = 0) → ((a2 < (-1073741824 : Int32) → (wqR_number_28 a1 a2 (1 : Int32) mR post)) ∧ (¬ (a2 < (-1073741824 : Int32)) → (((1073741823 : Int32) < a2 → (wqR_number_28 a1 a2 (1 : Int32) mR post)) ∧ (¬ ((1073741823 : Int32) < a2) → (wqR_number_28 a1 a2 (0 : Int32) mR post)))))))
set_option maxHeartbeats 4000000 in
set_option maxRecDepth 100000 in
theorem mR_number (l : Launch) (dC : Nat → ClassId) (dI : Nat → Nat → Nat) (cI : ClassId) (cZ : ClassId) (b0 : Nat) (bR : Nat) (bI : Nat) (bC : Nat) (bY : Nat) (bZ : Nat) (bF : Nat) (bL : Nat) (bN : Nat) (bX : Nat) (bT : Nat) (sz : Nat) (mcd : Int32) (mwd : Int32) (men : Int32) (mR : Nat → Int32) (mI : Nat → Int32) (mC : Nat → Int32) (mY : Nat → Int32) (mZ : Nat → Int32) (mF : Nat → Int32) (mmd : Int32) (mhi : Int32) (mL : Nat → Int32) (mN : Nat → Int32) (mfr : Int32) (mX : Nat → Int32) (mT : Nat → Int32) (mct : Int32) (mtk : Int32) (a1 : Int32) (a2 : Int32) (post : Int32 → (Nat → Int32) → Prop) (h : wqR_number mcd mR a1 a2 post) : Met l y_R_number ws_R_number ({ frames := 1, cells := 0, slots := 0, locals := 20 }) (rw_P (dC, dI) vwCl (RSw cI cZ b0 bR bI bC bY bZ bF bL bN bX bT mcd mwd men mR mI mC mY mZ mF mmd mhi mL mN mfr mX mT mct mtk) [(cI, .int), (cZ, .boolean)] sz [.ref b0, .int a1, .int a2]) (va_Qv (fun u : Int32 × (Nat → Int32) => post u.1 u.2) (rw_B (dC, dI) vwCl [(cI, .int), (cZ, .boolean)] (va_A (RSw cI cZ b0 bR bI bC bY bZ bF bL bN bX bT mcd mwd men mR mI mC mY mZ mF mmd mhi mL mN mfr mX mT mct mtk) sz) (fun u : Int32 × (Nat → Int32) => RSw cI cZ b0 bR bI bC bY bZ bF bL bN bX bT u.1 mwd men u.2 mI mC mY mZ mF mmd mhi mL mN mfr mX mT mct mtk)) (va_A (RSw cI cZ b0 bR bI bC bY bZ bF bL bN bX bT mcd mwd men mR mI mC mY mZ mF mmd mhi mL mN mfr mX mT mct mtk) sz)) 0 0 (va_A (RSw cI cZ b0 bR bI bC bY bZ bF bL bN bX bT mcd mwd men mR mI mC mY mZ mF mmd mhi mL mN mfr mX mT mct mtk) sz) := by
  refine Met.ofW (cc := c_R_number) (maxL := 3) (ret := none) (by decide) rfl ?_
  intro p e s m args below meth c s₁ B hml hv
  obtain ⟨rfl, hsz, hP, hK, hD0⟩ := hv
  have hx := B.exec
  have hb := B.bytes
  have hr9 := B.returns
  have hts := atoms_spec (ws := ws_R_number) B.pre
  have hw : ∀ w ∈ WB_, w.before _ s = true := fun w h => hts w (List.mem_cons_of_mem _ h)
  have hown : s.vm.findClass R_R = some m.cls := findClass_of_methodNamed B.named
  have hlocks := B.notSynchronized
  subst hsz
  have hD := hD0.self (sz := s.heap.size)
  generalize hAe : va_A (RSw cI cZ b0 bR bI bC bY bZ bF bL bN bX bT mcd mwd men mR mI mC mY mZ mF mmd mhi mL mN mfr mX mT mct mtk) s.heap.size = A at hD ⊢
  have hA : ∀ q : Nat, s.heap.size ≤ q → A q := fun q h => by rw [← hAe]; exact Or.inr h
  have hS : va_S A s.heap s.heap [] := va_S.rf
  have hl := lv_entry ([.ref b0, .int a1, .int a2]) (n := 3) (Nat.le_of_ble_eq_true rfl)
  rw [lg_entry_eq]
  generalize (lg_sl ([.ref b0, .int a1, .int a2]) ++ List.replicate (3 - (lg_sl ([.ref b0, .int a1, .int a2])).length) Slot.unset).toArray = ls at hl ⊢
  have hl : lv_has ls 3 [(0, .ref b0), (1, .int a1), (2, .int a2)] := hl
  have lp_28 : ∀ (y1_28 : Int32) (y2_28 : Int32) (mcd_28 : Int32) (mR_28 : Nat → Int32) (H : Heap) (locs : List Loc) (ls : Array Slot), va_P (dC, dI) vwCl (RSw cI cZ b0 bR bI bC bY bZ bF bL bN bX bT mcd_28 mwd men mR_28 mI mC mY mZ mF mmd mhi mL mN mfr mX mT mct mtk) H → va_D A (RSw cI cZ b0 bR bI bC bY bZ bF bL bN bX bT mcd_28 mwd men mR_28 mI mC mY mZ mF mmd mhi mL mN mfr mX mT mct mtk) → va_S A s.heap H locs → lv_has ls 3 [(0, .ref b0), (1, .int y1_28), (2, .int y2_28)] → wqR_number_28 y1_28 y2_28 mcd_28 mR_28 post → W p l e (headSpec ws_R_number ({ frames := 1, cells := 0, slots := 0, locals := 20 })).room s m ([.ref b0, .int a1, .int a2] : List Value).toArray below meth c H locs (0) (0) (MQ below (va_Qv (fun u : Int32 × (Nat → Int32) => post u.1 u.2) (rw_B (dC, dI) vwCl [(cI, .int), (cZ, .boolean)] A (fun u : Int32 × (Nat → Int32) => RSw cI cZ b0 bR bI bC bY bZ bF bL bN bX bT u.1 mwd men u.2 mI mC mY mZ mF mmd mhi mL mN mfr mX mT mct mtk)) A) ([.ref b0, .int a1, .int a2] : List Value).toArray s 0 0 A) (F0 m 28 ls []) := by
    intro y1_28 y2_28 mcd_28 mR_28 H locs ls hP hD hS hl h
    unfold wqR_number_28 at h
    refine lv_aload_n hx hb d_R_number_28 rfl (lv_at hl 0 rfl) ?_
    refine va_get (D := (dC, dI)) (ci := 2) (v := .int mcd_28) (C := R_R) (T := T_R) (N := 18) hx hb hw in_R hown hK hP 0 rfl rfl 0 (by decide) (hw _ wd_616) (fun _ h9 => h9) rfl d_R_number_29 ?_
    refine lv_if_ne (tgt := 46) hx hb d_R_number_32 (by decide) (fun c_32 => ?_) (fun c_32 => ?_)
    · have h := h.2 c_32
      exact W.vret hx hb hr9 (fun t ht hW => ⟨⟨(mcd_28, mR_28), rfl, h, by rw [ht]; exact hP, va_K.moved hW.alike hK, hD⟩, hS.F ht⟩) hS.2.2 d_R_number_46
    · have h := h.1 c_32
      refine lv_aload_n hx hb d_R_number_35 rfl (lv_at hl 0 rfl) ?_
      refine va_get (D := (dC, dI)) (ci := 2) (v := .ref bR) (C := R_R) (T := T_R) (N := 18) hx hb hw in_R hown hK hP 0 rfl rfl 3 (by decide) (hw _ wd_619) (fun _ h9 => h9) rfl d_R_number_36 ?_
      refine lv_iload_n hx hb d_R_number_39 rfl (lv_at hl 1 rfl) ?_
      refine lv_iconst (v := (2 : Int32)) hx hb d_R_number_40 (by decide) ?_
      refine lv_iload_n hx hb d_R_number_41 rfl (lv_at hl 2 rfl) ?_
      refine lv_imul hx hb d_R_number_42 ?_
      refine lv_iconst (v := (1 : Int32)) hx hb d_R_number_43 (by decide) ?_
      refine lv_iadd hx hb d_R_number_44 ?_
      refine va_iast hx hb hK hP hD hS 1 0 rfl rfl h.1 d_R_number_45 (fun H locs hP hD hS => ?_)
      have hP : va_P (dC, dI) vwCl (RSw cI cZ b0 bR bI bC bY bZ bF bL bN bX bT mcd_28 mwd men (upd mR_28 y1_28.toNatClampNeg (((2 : Int32) * y2_28) + (1 : Int32))) mI mC mY mZ mF mmd mhi mL mN mfr mX mT mct mtk) H := hP
      have hD : va_D A (RSw cI cZ b0 bR bI bC bY bZ bF bL bN bX bT mcd_28 mwd men (upd mR_28 y1_28.toNatClampNeg (((2 : Int32) * y2_28) + (1 : Int32))) mI mC mY mZ mF mmd mhi mL mN mfr mX mT mct mtk) := hD
      have h := h.2
      exact W.vret hx hb hr9 (fun t ht hW => ⟨⟨(mcd_28, upd mR_28 y1_28.toNatClampNeg (((2 : Int32) * y2_28) + (1 : Int32))), rfl, h, by rw [ht]; exact hP, va_K.moved hW.alike hK, hD⟩, hS.F ht⟩) hS.2.2 d_R_number_46
  unfold wqR_number at h
  refine lv_aload_n hx hb d_R_number_0 rfl (lv_at hl 0 rfl) ?_
  refine lv_iload_n hx hb d_R_number_1 rfl (lv_at hl 1 rfl) ?_
  refine rq_calli (W.runS (As := [.int a1]) (rest := [.ref b0]) ⟨hx, hb, hml, hown, hw⟩ (mR_isRegister l a1 _ h) (va_cwS 1 hw g_R_52 rfl rfl rfl (by decide +kernel) ⟨Nat.le_of_ble_eq_true rfl, Nat.le_of_ble_eq_true rfl⟩) preEq rfl rfl hl.1 rfl (lv_room (Nat.le_of_ble_eq_true rfl)) d_R_number_2 ⟨Nat.le_of_ble_eq_true rfl, Nat.le_of_ble_eq_true rfl⟩) (fun r2 h => ?_)
  refine lv_if_eq (tgt := 24) hx hb d_R_number_5 (by decide) (fun c_5 => ?_) (fun c_5 => ?_)
  · have h := h.1 c_5
    refine lv_iconst (v := (1 : Int32)) hx hb d_R_number_24 (by decide) ?_
    refine va_put (D := (dC, dI)) (ci := 2) (v := .int (1 : Int32)) (ty := .int) (C := R_R) (T := T_R) (N := 18) hx hb hw in_R ty_R ty_R_ok nm_R hown hK hP hD hS 0 rfl rfl 0 (by decide) (hw _ wd_616) (fun _ h9 => h9) rfl (by decide +kernel) rfl rfl (Nat.le_of_ble_eq_true rfl) d_R_number_25 (fun H locs hP hD hS => ?_)
    have hP : va_P (dC, dI) vwCl (RSw cI cZ b0 bR bI bC bY bZ bF bL bN bX bT (1 : Int32) mwd men mR mI mC mY mZ mF mmd mhi mL mN mfr mX mT mct mtk) H := hP
    have hD : va_D A (RSw cI cZ b0 bR bI bC bY bZ bF bL bN bX bT (1 : Int32) mwd men mR mI mC mY mZ mF mmd mhi mL mN mfr mX mT mct mtk) := hD
    exact lp_28 a1 a2 (1 : Int32) mR H locs ls hP hD hS (lv_sub hl [0, 1, 2] rfl) h
  · have h := h.2 c_5
    refine lv_iload_n hx hb d_R_number_8 rfl (lv_at hl 2 rfl) ?_
    refine lv_ldc (v := (-1073741824 : Int32)) hx hb hown (hw _ wd_683) d_R_number_9 ?_
    refine lv_icmp_lt (tgt := 24) hx hb d_R_number_11 (by decide) (fun c_11 => ?_) (fun c_11 => ?_)
    · have h := h.1 c_11
      refine lv_iconst (v := (1 : Int32)) hx hb d_R_number_24 (by decide) ?_
      refine va_put (D := (dC, dI)) (ci := 2) (v := .int (1 : Int32)) (ty := .int) (C := R_R) (T := T_R) (N := 18) hx hb hw in_R ty_R ty_R_ok nm_R hown hK hP hD hS 0 rfl rfl 0 (by decide) (hw _ wd_616) (fun _ h9 => h9) rfl (by decide +kernel) rfl rfl (Nat.le_of_ble_eq_true rfl) d_R_number_25 (fun H locs hP hD hS => ?_)
      have hP : va_P (dC, dI) vwCl (RSw cI cZ b0 bR bI bC bY bZ bF bL bN bX bT (1 : Int32) mwd men mR mI mC mY mZ mF mmd mhi mL mN mfr mX mT mct mtk) H := hP
      have hD : va_D A (RSw cI cZ b0 bR bI bC bY bZ bF bL bN bX bT (1 : Int32) mwd men mR mI mC mY mZ mF mmd mhi mL mN mfr mX mT mct mtk) := hD
      exact lp_28 a1 a2 (1 : Int32) mR H locs ls hP hD hS (lv_sub hl [0, 1, 2] rfl) h
    · have h := h.2 c_11
      refine lv_iload_n hx hb d_R_number_14 rfl (lv_at hl 2 rfl) ?_
      refine lv_ldc (v := (1073741823 : Int32)) hx hb hown (hw _ wd_684) d_R_number_15 ?_
      refine lv_icmp_gt (tgt := 24) hx hb d_R_number_17 (by decide) (fun c_17 => ?_) (fun c_17 => ?_)
      · have h := h.1 c_17
        refine lv_iconst (v := (1 : Int32)) hx hb d_R_number_24 (by decide) ?_
        refine va_put (D := (dC, dI)) (ci := 2) (v := .int (1 : Int32)) (ty := .int) (C := R_R) (T := T_R) (N := 18) hx hb hw in_R ty_R ty_R_ok nm_R hown hK hP hD hS 0 rfl rfl 0 (by decide) (hw _ wd_616) (fun _ h9 => h9) rfl (by decide +kernel) rfl rfl (Nat.le_of_ble_eq_true rfl) d_R_number_25 (fun H locs hP hD hS => ?_)
        have hP : va_P (dC, dI) vwCl (RSw cI cZ b0 bR bI bC bY bZ bF bL bN bX bT (1 : Int32) mwd men mR mI mC mY mZ mF mmd mhi mL mN mfr mX mT mct mtk) H := hP
        have hD : va_D A (RSw cI cZ b0 bR bI bC bY bZ bF bL bN bX bT (1 : Int32) mwd men mR mI mC mY mZ mF mmd mhi mL mN mfr mX mT mct mtk) := hD
        exact lp_28 a1 a2 (1 : Int32) mR H locs ls hP hD hS (lv_sub hl [0, 1, 2] rfl) h
      · have h := h.2 c_17
        refine lv_iconst (v := (0 : Int32)) hx hb d_R_number_20 (by decide) ?_
        refine lv_goto (tgt := 25) hx hb d_R_number_21 (by decide) ?_
        refine va_put (D := (dC, dI)) (ci := 2) (v := .int (0 : Int32)) (ty := .int) (C := R_R) (T := T_R) (N := 18) hx hb hw in_R ty_R ty_R_ok nm_R hown hK hP hD hS 0 rfl rfl 0 (by decide) (hw _ wd_616) (fun _ h9 => h9) rfl (by decide +kernel) rfl rfl (Nat.le_of_ble_eq_true rfl) d_R_number_25 (fun H locs hP hD hS => ?_)
        have hP : va_P (dC, dI) vwCl (RSw cI cZ b0 bR bI bC bY bZ bF bL bN bX bT (0 : Int32) mwd men mR mI mC mY mZ mF mmd mhi mL mN mfr mX mT mct mtk) H := hP
        have hD : va_D A (RSw cI cZ b0 bR bI bC bY bZ bF bL bN bX bT (0 : Int32) mwd men mR mI mC mY mZ mF mmd mhi mL mN mfr mX mT mct mtk) := hD
        exact lp_28 a1 a2 (0 : Int32) mR H locs ls hP hD hS (lv_sub hl [0, 1, 2] rfl) h
def wqR_move_23 (y1_23 : Int32) (y2_23 : Int32) (mcd_23 : Int32) (mR_23 : Nat → Int32) (post : Int32 → (Nat → Int32) → Prop) : Prop :=
  (mcd_23 = 0 → (vp_in y2_23 32 ∧ (vp_in y1_23 32 ∧ (post mcd_23 (upd mR_23 y1_23.toNatClampNeg (mR_23 y2_23.toNatClampNeg)))))) ∧ (¬ (mcd_23 = 0) → (post mcd_23 mR_23))
def wqR_move (mcd : Int32) (mR : Nat → Int32) (a1 : Int32) (a2 : Int32) (post : Int32 → (Nat → Int32) → Prop) : Prop :=
  wqR_isRegister a1 (fun r2 => (r2 = 0 → (wqR_move_23 a1 a2 (1 : Int32) mR post)) ∧ (¬ (r2 = 0) → (wqR_isRegister a2 (fun r9 => (r9 = 0 → (wqR_move_23 a1 a2 (1 : Int32) mR post)) ∧ (¬ (r9 = 0) → (wqR_move_23 a1 a2 (0 : Int32) mR post))))))
set_option maxHeartbeats 4000000 in
set_option maxRecDepth 100000 in
theorem mR_move (l : Launch) (dC : Nat → ClassId) (dI : Nat → Nat → Nat) (cI : ClassId) (cZ : ClassId) (b0 : Nat) (bR : Nat) (bI : Nat) (bC : Nat) (bY : Nat) (bZ : Nat) (bF : Nat) (bL : Nat) (bN : Nat) (bX : Nat) (bT : Nat) (sz : Nat) (mcd : Int32) (mwd : Int32) (men : Int32) (mR : Nat → Int32) (mI : Nat → Int32) (mC : Nat → Int32) (mY : Nat → Int32) (mZ : Nat → Int32) (mF : Nat → Int32) (mmd : Int32) (mhi : Int32) (mL : Nat → Int32) (mN : Nat → Int32) (mfr : Int32) (mX : Nat → Int32) (mT : Nat → Int32) (mct : Int32) (mtk : Int32) (a1 : Int32) (a2 : Int32) (post : Int32 → (Nat → Int32) → Prop) (h : wqR_move mcd mR a1 a2 post) : Met l y_R_move ws_R_move ({ frames := 1, cells := 0, slots := 0, locals := 20 }) (rw_P (dC, dI) vwCl (RSw cI cZ b0 bR bI bC bY bZ bF bL bN bX bT mcd mwd men mR mI mC mY mZ mF mmd mhi mL mN mfr mX mT mct mtk) [(cI, .int), (cZ, .boolean)] sz [.ref b0, .int a1, .int a2]) (va_Qv (fun u : Int32 × (Nat → Int32) => post u.1 u.2) (rw_B (dC, dI) vwCl [(cI, .int), (cZ, .boolean)] (va_A (RSw cI cZ b0 bR bI bC bY bZ bF bL bN bX bT mcd mwd men mR mI mC mY mZ mF mmd mhi mL mN mfr mX mT mct mtk) sz) (fun u : Int32 × (Nat → Int32) => RSw cI cZ b0 bR bI bC bY bZ bF bL bN bX bT u.1 mwd men u.2 mI mC mY mZ mF mmd mhi mL mN mfr mX mT mct mtk)) (va_A (RSw cI cZ b0 bR bI bC bY bZ bF bL bN bX bT mcd mwd men mR mI mC mY mZ mF mmd mhi mL mN mfr mX mT mct mtk) sz)) 0 0 (va_A (RSw cI cZ b0 bR bI bC bY bZ bF bL bN bX bT mcd mwd men mR mI mC mY mZ mF mmd mhi mL mN mfr mX mT mct mtk) sz) := by
  refine Met.ofW (cc := c_R_move) (maxL := 3) (ret := none) (by decide) rfl ?_
  intro p e s m args below meth c s₁ B hml hv
  obtain ⟨rfl, hsz, hP, hK, hD0⟩ := hv
  have hx := B.exec
  have hb := B.bytes
  have hr9 := B.returns
  have hts := atoms_spec (ws := ws_R_move) B.pre
  have hw : ∀ w ∈ WB_, w.before _ s = true := fun w h => hts w (List.mem_cons_of_mem _ h)
  have hown : s.vm.findClass R_R = some m.cls := findClass_of_methodNamed B.named
  have hlocks := B.notSynchronized
  subst hsz
  have hD := hD0.self (sz := s.heap.size)
  generalize hAe : va_A (RSw cI cZ b0 bR bI bC bY bZ bF bL bN bX bT mcd mwd men mR mI mC mY mZ mF mmd mhi mL mN mfr mX mT mct mtk) s.heap.size = A at hD ⊢
  have hA : ∀ q : Nat, s.heap.size ≤ q → A q := fun q h => by rw [← hAe]; exact Or.inr h
  have hS : va_S A s.heap s.heap [] := va_S.rf
  have hl := lv_entry ([.ref b0, .int a1, .int a2]) (n := 3) (Nat.le_of_ble_eq_true rfl)
  rw [lg_entry_eq]
  generalize (lg_sl ([.ref b0, .int a1, .int a2]) ++ List.replicate (3 - (lg_sl ([.ref b0, .int a1, .int a2])).length) Slot.unset).toArray = ls at hl ⊢
  have hl : lv_has ls 3 [(0, .ref b0), (1, .int a1), (2, .int a2)] := hl
  have lp_23 : ∀ (y1_23 : Int32) (y2_23 : Int32) (mcd_23 : Int32) (mR_23 : Nat → Int32) (H : Heap) (locs : List Loc) (ls : Array Slot), va_P (dC, dI) vwCl (RSw cI cZ b0 bR bI bC bY bZ bF bL bN bX bT mcd_23 mwd men mR_23 mI mC mY mZ mF mmd mhi mL mN mfr mX mT mct mtk) H → va_D A (RSw cI cZ b0 bR bI bC bY bZ bF bL bN bX bT mcd_23 mwd men mR_23 mI mC mY mZ mF mmd mhi mL mN mfr mX mT mct mtk) → va_S A s.heap H locs → lv_has ls 3 [(0, .ref b0), (1, .int y1_23), (2, .int y2_23)] → wqR_move_23 y1_23 y2_23 mcd_23 mR_23 post → W p l e (headSpec ws_R_move ({ frames := 1, cells := 0, slots := 0, locals := 20 })).room s m ([.ref b0, .int a1, .int a2] : List Value).toArray below meth c H locs (0) (0) (MQ below (va_Qv (fun u : Int32 × (Nat → Int32) => post u.1 u.2) (rw_B (dC, dI) vwCl [(cI, .int), (cZ, .boolean)] A (fun u : Int32 × (Nat → Int32) => RSw cI cZ b0 bR bI bC bY bZ bF bL bN bX bT u.1 mwd men u.2 mI mC mY mZ mF mmd mhi mL mN mfr mX mT mct mtk)) A) ([.ref b0, .int a1, .int a2] : List Value).toArray s 0 0 A) (F0 m 23 ls []) := by
    intro y1_23 y2_23 mcd_23 mR_23 H locs ls hP hD hS hl h
    unfold wqR_move_23 at h
    refine lv_aload_n hx hb d_R_move_23 rfl (lv_at hl 0 rfl) ?_
    refine va_get (D := (dC, dI)) (ci := 2) (v := .int mcd_23) (C := R_R) (T := T_R) (N := 18) hx hb hw in_R hown hK hP 0 rfl rfl 0 (by decide) (hw _ wd_616) (fun _ h9 => h9) rfl d_R_move_24 ?_
    refine lv_if_ne (tgt := 42) hx hb d_R_move_27 (by decide) (fun c_27 => ?_) (fun c_27 => ?_)
    · have h := h.2 c_27
      exact W.vret hx hb hr9 (fun t ht hW => ⟨⟨(mcd_23, mR_23), rfl, h, by rw [ht]; exact hP, va_K.moved hW.alike hK, hD⟩, hS.F ht⟩) hS.2.2 d_R_move_42
    · have h := h.1 c_27
      refine lv_aload_n hx hb d_R_move_30 rfl (lv_at hl 0 rfl) ?_
      refine va_get (D := (dC, dI)) (ci := 2) (v := .ref bR) (C := R_R) (T := T_R) (N := 18) hx hb hw in_R hown hK hP 0 rfl rfl 3 (by decide) (hw _ wd_619) (fun _ h9 => h9) rfl d_R_move_31 ?_
      refine lv_iload_n hx hb d_R_move_34 rfl (lv_at hl 1 rfl) ?_
      refine lv_aload_n hx hb d_R_move_35 rfl (lv_at hl 0 rfl) ?_
      refine va_get (D := (dC, dI)) (ci := 2) (v := .ref bR) (C := R_R) (T := T_R) (N := 18) hx hb hw in_R hown hK hP 0 rfl rfl 3 (by decide) (hw _ wd_619) (fun _ h9 => h9) rfl d_R_move_36 ?_
      refine lv_iload_n hx hb d_R_move_39 rfl (lv_at hl 2 rfl) ?_
      refine va_iald hx hb hK hP 1 0 rfl rfl h.1 d_R_move_40 ?_
      have h := h.2
      refine va_iast hx hb hK hP hD hS 1 0 rfl rfl h.1 d_R_move_41 (fun H locs hP hD hS => ?_)
      have hP : va_P (dC, dI) vwCl (RSw cI cZ b0 bR bI bC bY bZ bF bL bN bX bT mcd_23 mwd men (upd mR_23 y1_23.toNatClampNeg (mR_23 y2_23.toNatClampNeg)) mI mC mY mZ mF mmd mhi mL mN mfr mX mT mct mtk) H := hP
      have hD : va_D A (RSw cI cZ b0 bR bI bC bY bZ bF bL bN bX bT mcd_23 mwd men (upd mR_23 y1_23.toNatClampNeg (mR_23 y2_23.toNatClampNeg)) mI mC mY mZ mF mmd mhi mL mN mfr mX mT mct mtk) := hD
      have h := h.2
      exact W.vret hx hb hr9 (fun t ht hW => ⟨⟨(mcd_23, upd mR_23 y1_23.toNatClampNeg (mR_23 y2_23.toNatClampNeg)), rfl, h, by rw [ht]; exact hP, va_K.moved hW.alike hK, hD⟩, hS.F ht⟩) hS.2.2 d_R_move_42
  unfold wqR_move at h
  refine lv_aload_n hx hb d_R_move_0 rfl (lv_at hl 0 rfl) ?_
  refine lv_iload_n hx hb d_R_move_1 rfl (lv_at hl 1 rfl) ?_
  refine rq_calli (W.runS (As := [.int a1]) (rest := [.ref b0]) ⟨hx, hb, hml, hown, hw⟩ (mR_isRegister l a1 _ h) (va_cwS 1 hw g_R_52 rfl rfl rfl (by decide +kernel) ⟨Nat.le_of_ble_eq_true rfl, Nat.le_of_ble_eq_true rfl⟩) preEq rfl rfl hl.1 rfl (lv_room (Nat.le_of_ble_eq_true rfl)) d_R_move_2 ⟨Nat.le_of_ble_eq_true rfl, Nat.le_of_ble_eq_true rfl⟩) (fun r2 h => ?_)
  refine lv_if_eq (tgt := 19) hx hb d_R_move_5 (by decide) (fun c_5 => ?_) (fun c_5 => ?_)
  · have h := h.1 c_5
    refine lv_iconst (v := (1 : Int32)) hx hb d_R_move_19 (by decide) ?_
    refine va_put (D := (dC, dI)) (ci := 2) (v := .int (1 : Int32)) (ty := .int) (C := R_R) (T := T_R) (N := 18) hx hb hw in_R ty_R ty_R_ok nm_R hown hK hP hD hS 0 rfl rfl 0 (by decide) (hw _ wd_616) (fun _ h9 => h9) rfl (by decide +kernel) rfl rfl (Nat.le_of_ble_eq_true rfl) d_R_move_20 (fun H locs hP hD hS => ?_)
    have hP : va_P (dC, dI) vwCl (RSw cI cZ b0 bR bI bC bY bZ bF bL bN bX bT (1 : Int32) mwd men mR mI mC mY mZ mF mmd mhi mL mN mfr mX mT mct mtk) H := hP
    have hD : va_D A (RSw cI cZ b0 bR bI bC bY bZ bF bL bN bX bT (1 : Int32) mwd men mR mI mC mY mZ mF mmd mhi mL mN mfr mX mT mct mtk) := hD
    exact lp_23 a1 a2 (1 : Int32) mR H locs ls hP hD hS (lv_sub hl [0, 1, 2] rfl) h
  · have h := h.2 c_5
    refine lv_iload_n hx hb d_R_move_8 rfl (lv_at hl 2 rfl) ?_
    refine rq_calli (W.runS (As := [.int a2]) (rest := [.ref b0]) ⟨hx, hb, hml, hown, hw⟩ (mR_isRegister l a2 _ h) (va_cwS 1 hw g_R_52 rfl rfl rfl (by decide +kernel) ⟨Nat.le_of_ble_eq_true rfl, Nat.le_of_ble_eq_true rfl⟩) preEq rfl rfl hl.1 rfl (lv_room (Nat.le_of_ble_eq_true rfl)) d_R_move_9 ⟨Nat.le_of_ble_eq_true rfl, Nat.le_of_ble_eq_true rfl⟩) (fun r9 h => ?_)
    refine lv_if_eq (tgt := 19) hx hb d_R_move_12 (by decide) (fun c_12 => ?_) (fun c_12 => ?_)
    · have h := h.1 c_12
      refine lv_iconst (v := (1 : Int32)) hx hb d_R_move_19 (by decide) ?_
      refine va_put (D := (dC, dI)) (ci := 2) (v := .int (1 : Int32)) (ty := .int) (C := R_R) (T := T_R) (N := 18) hx hb hw in_R ty_R ty_R_ok nm_R hown hK hP hD hS 0 rfl rfl 0 (by decide) (hw _ wd_616) (fun _ h9 => h9) rfl (by decide +kernel) rfl rfl (Nat.le_of_ble_eq_true rfl) d_R_move_20 (fun H locs hP hD hS => ?_)
      have hP : va_P (dC, dI) vwCl (RSw cI cZ b0 bR bI bC bY bZ bF bL bN bX bT (1 : Int32) mwd men mR mI mC mY mZ mF mmd mhi mL mN mfr mX mT mct mtk) H := hP
      have hD : va_D A (RSw cI cZ b0 bR bI bC bY bZ bF bL bN bX bT (1 : Int32) mwd men mR mI mC mY mZ mF mmd mhi mL mN mfr mX mT mct mtk) := hD
      exact lp_23 a1 a2 (1 : Int32) mR H locs ls hP hD hS (lv_sub hl [0, 1, 2] rfl) h
    · have h := h.2 c_12
      refine lv_iconst (v := (0 : Int32)) hx hb d_R_move_15 (by decide) ?_
      refine lv_goto (tgt := 20) hx hb d_R_move_16 (by decide) ?_
      refine va_put (D := (dC, dI)) (ci := 2) (v := .int (0 : Int32)) (ty := .int) (C := R_R) (T := T_R) (N := 18) hx hb hw in_R ty_R ty_R_ok nm_R hown hK hP hD hS 0 rfl rfl 0 (by decide) (hw _ wd_616) (fun _ h9 => h9) rfl (by decide +kernel) rfl rfl (Nat.le_of_ble_eq_true rfl) d_R_move_20 (fun H locs hP hD hS => ?_)
      have hP : va_P (dC, dI) vwCl (RSw cI cZ b0 bR bI bC bY bZ bF bL bN bX bT (0 : Int32) mwd men mR mI mC mY mZ mF mmd mhi mL mN mfr mX mT mct mtk) H := hP
      have hD : va_D A (RSw cI cZ b0 bR bI bC bY bZ bF bL bN bX bT (0 : Int32) mwd men mR mI mC mY mZ mF mmd mhi mL mN mfr mX mT mct mtk) := hD
      exact lp_23 a1 a2 (0 : Int32) mR H locs ls hP hD hS (lv_sub hl [0, 1, 2] rfl) h
def wqR_clear_16 (y1_16 : Int32) (mcd_16 : Int32) (mR_16 : Nat → Int32) (post : Int32 → (Nat → Int32) → Prop) : Prop :=
  (mcd_16 = 0 → (vp_in y1_16 32 ∧ (post mcd_16 (upd mR_16 y1_16.toNatClampNeg (0 : Int32))))) ∧ (¬ (mcd_16 = 0) → (post mcd_16 mR_16))
def wqR_clear (mcd : Int32) (mR : Nat → Int32) (a1 : Int32) (post : Int32 → (Nat → Int32) → Prop) : Prop :=
  wqR_isRegister a1 (fun r2 => (r2 = 0 → (wqR_clear_16 a1 (1 : Int32) mR post)) ∧ (¬ (r2 = 0) → (wqR_clear_16 a1 (0 : Int32) mR post)))
set_option maxHeartbeats 4000000 in
set_option maxRecDepth 100000 in
theorem mR_clear (l : Launch) (dC : Nat → ClassId) (dI : Nat → Nat → Nat) (cI : ClassId) (cZ : ClassId) (b0 : Nat) (bR : Nat) (bI : Nat) (bC : Nat) (bY : Nat) (bZ : Nat) (bF : Nat) (bL : Nat) (bN : Nat) (bX : Nat) (bT : Nat) (sz : Nat) (mcd : Int32) (mwd : Int32) (men : Int32) (mR : Nat → Int32) (mI : Nat → Int32) (mC : Nat → Int32) (mY : Nat → Int32) (mZ : Nat → Int32) (mF : Nat → Int32) (mmd : Int32) (mhi : Int32) (mL : Nat → Int32) (mN : Nat → Int32) (mfr : Int32) (mX : Nat → Int32) (mT : Nat → Int32) (mct : Int32) (mtk : Int32) (a1 : Int32) (post : Int32 → (Nat → Int32) → Prop) (h : wqR_clear mcd mR a1 post) : Met l y_R_clear ws_R_clear ({ frames := 1, cells := 0, slots := 0, locals := 20 }) (rw_P (dC, dI) vwCl (RSw cI cZ b0 bR bI bC bY bZ bF bL bN bX bT mcd mwd men mR mI mC mY mZ mF mmd mhi mL mN mfr mX mT mct mtk) [(cI, .int), (cZ, .boolean)] sz [.ref b0, .int a1]) (va_Qv (fun u : Int32 × (Nat → Int32) => post u.1 u.2) (rw_B (dC, dI) vwCl [(cI, .int), (cZ, .boolean)] (va_A (RSw cI cZ b0 bR bI bC bY bZ bF bL bN bX bT mcd mwd men mR mI mC mY mZ mF mmd mhi mL mN mfr mX mT mct mtk) sz) (fun u : Int32 × (Nat → Int32) => RSw cI cZ b0 bR bI bC bY bZ bF bL bN bX bT u.1 mwd men u.2 mI mC mY mZ mF mmd mhi mL mN mfr mX mT mct mtk)) (va_A (RSw cI cZ b0 bR bI bC bY bZ bF bL bN bX bT mcd mwd men mR mI mC mY mZ mF mmd mhi mL mN mfr mX mT mct mtk) sz)) 0 0 (va_A (RSw cI cZ b0 bR bI bC bY bZ bF bL bN bX bT mcd mwd men mR mI mC mY mZ mF mmd mhi mL mN mfr mX mT mct mtk) sz) := by
  refine Met.ofW (cc := c_R_clear) (maxL := 2) (ret := none) (by decide) rfl ?_
  intro p e s m args below meth c s₁ B hml hv
  obtain ⟨rfl, hsz, hP, hK, hD0⟩ := hv
  have hx := B.exec
  have hb := B.bytes
  have hr9 := B.returns
  have hts := atoms_spec (ws := ws_R_clear) B.pre
  have hw : ∀ w ∈ WB_, w.before _ s = true := fun w h => hts w (List.mem_cons_of_mem _ h)
  have hown : s.vm.findClass R_R = some m.cls := findClass_of_methodNamed B.named
  have hlocks := B.notSynchronized
  subst hsz
  have hD := hD0.self (sz := s.heap.size)
  generalize hAe : va_A (RSw cI cZ b0 bR bI bC bY bZ bF bL bN bX bT mcd mwd men mR mI mC mY mZ mF mmd mhi mL mN mfr mX mT mct mtk) s.heap.size = A at hD ⊢
  have hA : ∀ q : Nat, s.heap.size ≤ q → A q := fun q h => by rw [← hAe]; exact Or.inr h
  have hS : va_S A s.heap s.heap [] := va_S.rf
  have hl := lv_entry ([.ref b0, .int a1]) (n := 2) (Nat.le_of_ble_eq_true rfl)
  rw [lg_entry_eq]
  generalize (lg_sl ([.ref b0, .int a1]) ++ List.replicate (2 - (lg_sl ([.ref b0, .int a1])).length) Slot.unset).toArray = ls at hl ⊢
  have hl : lv_has ls 2 [(0, .ref b0), (1, .int a1)] := hl
  have lp_16 : ∀ (y1_16 : Int32) (mcd_16 : Int32) (mR_16 : Nat → Int32) (H : Heap) (locs : List Loc) (ls : Array Slot), va_P (dC, dI) vwCl (RSw cI cZ b0 bR bI bC bY bZ bF bL bN bX bT mcd_16 mwd men mR_16 mI mC mY mZ mF mmd mhi mL mN mfr mX mT mct mtk) H → va_D A (RSw cI cZ b0 bR bI bC bY bZ bF bL bN bX bT mcd_16 mwd men mR_16 mI mC mY mZ mF mmd mhi mL mN mfr mX mT mct mtk) → va_S A s.heap H locs → lv_has ls 2 [(0, .ref b0), (1, .int y1_16)] → wqR_clear_16 y1_16 mcd_16 mR_16 post → W p l e (headSpec ws_R_clear ({ frames := 1, cells := 0, slots := 0, locals := 20 })).room s m ([.ref b0, .int a1] : List Value).toArray below meth c H locs (0) (0) (MQ below (va_Qv (fun u : Int32 × (Nat → Int32) => post u.1 u.2) (rw_B (dC, dI) vwCl [(cI, .int), (cZ, .boolean)] A (fun u : Int32 × (Nat → Int32) => RSw cI cZ b0 bR bI bC bY bZ bF bL bN bX bT u.1 mwd men u.2 mI mC mY mZ mF mmd mhi mL mN mfr mX mT mct mtk)) A) ([.ref b0, .int a1] : List Value).toArray s 0 0 A) (F0 m 16 ls []) := by
    intro y1_16 mcd_16 mR_16 H locs ls hP hD hS hl h
    unfold wqR_clear_16 at h
    refine lv_aload_n hx hb d_R_clear_16 rfl (lv_at hl 0 rfl) ?_
    refine va_get (D := (dC, dI)) (ci := 2) (v := .int mcd_16) (C := R_R) (T := T_R) (N := 18) hx hb hw in_R hown hK hP 0 rfl rfl 0 (by decide) (hw _ wd_616) (fun _ h9 => h9) rfl d_R_clear_17 ?_
    refine lv_if_ne (tgt := 30) hx hb d_R_clear_20 (by decide) (fun c_20 => ?_) (fun c_20 => ?_)
    · have h := h.2 c_20
      exact W.vret hx hb hr9 (fun t ht hW => ⟨⟨(mcd_16, mR_16), rfl, h, by rw [ht]; exact hP, va_K.moved hW.alike hK, hD⟩, hS.F ht⟩) hS.2.2 d_R_clear_30
    · have h := h.1 c_20
      refine lv_aload_n hx hb d_R_clear_23 rfl (lv_at hl 0 rfl) ?_
      refine va_get (D := (dC, dI)) (ci := 2) (v := .ref bR) (C := R_R) (T := T_R) (N := 18) hx hb hw in_R hown hK hP 0 rfl rfl 3 (by decide) (hw _ wd_619) (fun _ h9 => h9) rfl d_R_clear_24 ?_
      refine lv_iload_n hx hb d_R_clear_27 rfl (lv_at hl 1 rfl) ?_
      refine lv_iconst (v := (0 : Int32)) hx hb d_R_clear_28 (by decide) ?_
      refine va_iast hx hb hK hP hD hS 1 0 rfl rfl h.1 d_R_clear_29 (fun H locs hP hD hS => ?_)
      have hP : va_P (dC, dI) vwCl (RSw cI cZ b0 bR bI bC bY bZ bF bL bN bX bT mcd_16 mwd men (upd mR_16 y1_16.toNatClampNeg (0 : Int32)) mI mC mY mZ mF mmd mhi mL mN mfr mX mT mct mtk) H := hP
      have hD : va_D A (RSw cI cZ b0 bR bI bC bY bZ bF bL bN bX bT mcd_16 mwd men (upd mR_16 y1_16.toNatClampNeg (0 : Int32)) mI mC mY mZ mF mmd mhi mL mN mfr mX mT mct mtk) := hD
      have h := h.2
      exact W.vret hx hb hr9 (fun t ht hW => ⟨⟨(mcd_16, upd mR_16 y1_16.toNatClampNeg (0 : Int32)), rfl, h, by rw [ht]; exact hP, va_K.moved hW.alike hK, hD⟩, hS.F ht⟩) hS.2.2 d_R_clear_30
  unfold wqR_clear at h
  refine lv_aload_n hx hb d_R_clear_0 rfl (lv_at hl 0 rfl) ?_
  refine lv_iload_n hx hb d_R_clear_1 rfl (lv_at hl 1 rfl) ?_
  refine rq_calli (W.runS (As := [.int a1]) (rest := [.ref b0]) ⟨hx, hb, hml, hown, hw⟩ (mR_isRegister l a1 _ h) (va_cwS 1 hw g_R_52 rfl rfl rfl (by decide +kernel) ⟨Nat.le_of_ble_eq_true rfl, Nat.le_of_ble_eq_true rfl⟩) preEq rfl rfl hl.1 rfl (lv_room (Nat.le_of_ble_eq_true rfl)) d_R_clear_2 ⟨Nat.le_of_ble_eq_true rfl, Nat.le_of_ble_eq_true rfl⟩) (fun r2 h => ?_)
  refine lv_if_eq (tgt := 12) hx hb d_R_clear_5 (by decide) (fun c_5 => ?_) (fun c_5 => ?_)
  · have h := h.1 c_5
    refine lv_iconst (v := (1 : Int32)) hx hb d_R_clear_12 (by decide) ?_
    refine va_put (D := (dC, dI)) (ci := 2) (v := .int (1 : Int32)) (ty := .int) (C := R_R) (T := T_R) (N := 18) hx hb hw in_R ty_R ty_R_ok nm_R hown hK hP hD hS 0 rfl rfl 0 (by decide) (hw _ wd_616) (fun _ h9 => h9) rfl (by decide +kernel) rfl rfl (Nat.le_of_ble_eq_true rfl) d_R_clear_13 (fun H locs hP hD hS => ?_)
    have hP : va_P (dC, dI) vwCl (RSw cI cZ b0 bR bI bC bY bZ bF bL bN bX bT (1 : Int32) mwd men mR mI mC mY mZ mF mmd mhi mL mN mfr mX mT mct mtk) H := hP
    have hD : va_D A (RSw cI cZ b0 bR bI bC bY bZ bF bL bN bX bT (1 : Int32) mwd men mR mI mC mY mZ mF mmd mhi mL mN mfr mX mT mct mtk) := hD
    exact lp_16 a1 (1 : Int32) mR H locs ls hP hD hS (lv_sub hl [0, 1] rfl) h
  · have h := h.2 c_5
    refine lv_iconst (v := (0 : Int32)) hx hb d_R_clear_8 (by decide) ?_
    refine lv_goto (tgt := 13) hx hb d_R_clear_9 (by decide) ?_
    refine va_put (D := (dC, dI)) (ci := 2) (v := .int (0 : Int32)) (ty := .int) (C := R_R) (T := T_R) (N := 18) hx hb hw in_R ty_R ty_R_ok nm_R hown hK hP hD hS 0 rfl rfl 0 (by decide) (hw _ wd_616) (fun _ h9 => h9) rfl (by decide +kernel) rfl rfl (Nat.le_of_ble_eq_true rfl) d_R_clear_13 (fun H locs hP hD hS => ?_)
    have hP : va_P (dC, dI) vwCl (RSw cI cZ b0 bR bI bC bY bZ bF bL bN bX bT (0 : Int32) mwd men mR mI mC mY mZ mF mmd mhi mL mN mfr mX mT mct mtk) H := hP
    have hD : va_D A (RSw cI cZ b0 bR bI bC bY bZ bF bL bN bX bT (0 : Int32) mwd men mR mI mC mY mZ mF mmd mhi mL mN mfr mX mT mct mtk) := hD
    exact lp_16 a1 (0 : Int32) mR H locs ls hP hD hS (lv_sub hl [0, 1] rfl) h
def wqR_make_111 (mwd : Int32) (men : Int32) (y1_111 : Int32) (y2_111 : Int32) (y3_111 : Int32) (y4_111 : Int32) (y5_111 : Int32) (y6_111 : Int32) (mcd_111 : Int32) (mR_111 : Nat → Int32) (mI_111 : Nat → Int32) (mC_111 : Nat → Int32) (mY_111 : Nat → Int32) (mZ_111 : Nat → Int32) (mF_111 : Nat → Int32) (mmd_111 : Int32) (mhi_111 : Int32) (mL_111 : Nat → Int32) (mN_111 : Nat → Int32) (mfr_111 : Int32) (mX_111 : Nat → Int32) (mT_111 : Nat → Int32) (mct_111 : Int32) (mtk_111 : Int32) (post : Int32 → Int32 → (Nat → Int32) → (Nat → Int32) → (Nat → Int32) → (Nat → Int32) → (Nat → Int32) → (Nat → Int32) → Int32 → Int32 → (Nat → Int32) → (Nat → Int32) → Int32 → (Nat → Int32) → (Nat → Int32) → Int32 → Int32 → Prop) : Prop :=
  wqR_valueOf y6_111 (fun r118 => vp_in y1_111 32 ∧ (post mmd_111 mcd_111 (upd mR_111 y1_111.toNatClampNeg r118) mI_111 mC_111 mY_111 mZ_111 mF_111 mmd_111 mhi_111 mL_111 mN_111 mfr_111 mX_111 mT_111 mct_111 mtk_111))
def wqR_make_79 (mwd : Int32) (men : Int32) (y1_79 : Int32) (y2_79 : Int32) (y3_79 : Int32) (y4_79 : Int32) (y5_79 : Int32) (mcd_79 : Int32) (mR_79 : Nat → Int32) (mI_79 : Nat → Int32) (mC_79 : Nat → Int32) (mY_79 : Nat → Int32) (mZ_79 : Nat → Int32) (mF_79 : Nat → Int32) (mmd_79 : Int32) (mhi_79 : Int32) (mL_79 : Nat → Int32) (mN_79 : Nat → Int32) (mfr_79 : Int32) (mX_79 : Nat → Int32) (mT_79 : Nat → Int32) (mct_79 : Int32) (mtk_79 : Int32) (post : Int32 → Int32 → (Nat → Int32) → (Nat → Int32) → (Nat → Int32) → (Nat → Int32) → (Nat → Int32) → (Nat → Int32) → Int32 → Int32 → (Nat → Int32) → (Nat → Int32) → Int32 → (Nat → Int32) → (Nat → Int32) → Int32 → Int32 → Prop) : Prop :=
  (mcd_79 ≤ 0 → (vp_in y2_79 32 ∧ ((y4_79 = 0 → (wqR_add mI_79 mC_79 mY_79 mZ_79 mF_79 mmd_79 mhi_79 mL_79 mN_79 mfr_79 (mR_79 y2_79.toNatClampNeg) y3_79 (1 : Int32) (fun r106 mI_106 mC_106 mY_106 mZ_106 mF_106 mmd_106 mhi_106 mL_106 mN_106 mfr_106 => wqR_make_111 mwd men y1_79 y2_79 y3_79 y4_79 y5_79 r106 mcd_79 mR_79 mI_106 mC_106 mY_106 mZ_106 mF_106 mmd_106 mhi_106 mL_106 mN_106 mfr_106 mX_79 mT_79 mct_79 mtk_79 post))) ∧ (¬ (y4_79 = 0) → (wqR_add mI_79 mC_79 mY_79 mZ_79 mF_79 mmd_79 mhi_79 mL_79 mN_79 mfr_79 (mR_79 y2_79.toNatClampNeg) y3_79 (0 : Int32) (fun r106 mI_106 mC_106 mY_106 mZ_106 mF_106 mmd_106 mhi_106 mL_106 mN_106 mfr_106 => wqR_make_111 mwd men y1_79 y2_79 y3_79 y4_79 y5_79 r106 mcd_79 mR_79 mI_106 mC_106 mY_106 mZ_106 mF_106 mmd_106 mhi_106 mL_106 mN_106 mfr_106 mX_79 mT_79 mct_79 mtk_79 post)))))) ∧ (¬ (mcd_79 ≤ 0) → (post (0 : Int32) mcd_79 mR_79 mI_79 mC_79 mY_79 mZ_79 mF_79 mmd_79 mhi_79 mL_79 mN_79 mfr_79 mX_79 mT_79 mct_79 mtk_79))
def wqR_make_43 (mwd : Int32) (men : Int32) (y1_43 : Int32) (y2_43 : Int32) (y3_43 : Int32) (y4_43 : Int32) (y5_43 : Int32) (mcd_43 : Int32) (mR_43 : Nat → Int32) (mI_43 : Nat → Int32) (mC_43 : Nat → Int32) (mY_43 : Nat → Int32) (mZ_43 : Nat → Int32) (mF_43 : Nat → Int32) (mmd_43 : Int32) (mhi_43 : Int32) (mL_43 : Nat → Int32) (mN_43 : Nat → Int32) (mfr_43 : Int32) (mX_43 : Nat → Int32) (mT_43 : Nat → Int32) (mct_43 : Int32) (mtk_43 : Int32) (post : Int32 → Int32 → (Nat → Int32) → (Nat → Int32) → (Nat → Int32) → (Nat → Int32) → (Nat → Int32) → (Nat → Int32) → Int32 → Int32 → (Nat → Int32) → (Nat → Int32) → Int32 → (Nat → Int32) → (Nat → Int32) → Int32 → Int32 → Prop) : Prop :=
  (y5_43 = 0 → (wqR_make_79 mwd men y1_43 y2_43 y3_43 y4_43 y5_43 (1 : Int32) mR_43 mI_43 mC_43 mY_43 mZ_43 mF_43 mmd_43 mhi_43 mL_43 mN_43 mfr_43 mX_43 mT_43 mct_43 mtk_43 post)) ∧ (¬ (y5_43 = 0) → ((y4_43 = 0 → (wqR_canMake mwd men mR_43 mI_43 mC_43 mY_43 mZ_43 mF_43 mhi_43 mL_43 mN_43 mfr_43 mX_43 mT_43 mct_43 mtk_43 y3_43 (1 : Int32) (fun r65 mI_65 mhi_65 mN_65 mfr_65 mX_65 mT_65 mct_65 mtk_65 => (r65 = 0 → (wqR_make_79 mwd men y1_43 y2_43 y3_43 y4_43 y5_43 (2 : Int32) mR_43 mI_65 mC_43 mY_43 mZ_43 mF_43 mmd_43 mhi_65 mL_43 mN_65 mfr_65 mX_65 mT_65 mct_65 mtk_65 post)) ∧ (¬ (r65 = 0) → (wqR_make_79 mwd men y1_43 y2_43 y3_43 y4_43 y5_43 (0 : Int32) mR_43 mI_65 mC_43 mY_43 mZ_43 mF_43 mmd_43 mhi_65 mL_43 mN_65 mfr_65 mX_65 mT_65 mct_65 mtk_65 post))))) ∧ (¬ (y4_43 = 0) → (wqR_canMake mwd men mR_43 mI_43 mC_43 mY_43 mZ_43 mF_43 mhi_43 mL_43 mN_43 mfr_43 mX_43 mT_43 mct_43 mtk_43 y3_43 (0 : Int32) (fun r65 mI_65 mhi_65 mN_65 mfr_65 mX_65 mT_65 mct_65 mtk_65 => (r65 = 0 → (wqR_make_79 mwd men y1_43 y2_43 y3_43 y4_43 y5_43 (2 : Int32) mR_43 mI_65 mC_43 mY_43 mZ_43 mF_43 mmd_43 mhi_65 mL_43 mN_65 mfr_65 mX_65 mT_65 mct_65 mtk_65 post)) ∧ (¬ (r65 = 0) → (wqR_make_79 mwd men y1_43 y2_43 y3_43 y4_43 y5_43 (0 : Int32) mR_43 mI_65 mC_43 mY_43 mZ_43 mF_43 mmd_43 mhi_65 mL_43 mN_65 mfr_65 mX_65 mT_65 mct_65 mtk_65 post)))))))
def wqR_make_40 (mwd : Int32) (men : Int32) (y1_40 : Int32) (y2_40 : Int32) (y3_40 : Int32) (y4_40 : Int32) (mcd_40 : Int32) (mR_40 : Nat → Int32) (mI_40 : Nat → Int32) (mC_40 : Nat → Int32) (mY_40 : Nat → Int32) (mZ_40 : Nat → Int32) (mF_40 : Nat → Int32) (mmd_40 : Int32) (mhi_40 : Int32) (mL_40 : Nat → Int32) (mN_40 : Nat → Int32) (mfr_40 : Int32) (mX_40 : Nat → Int32) (mT_40 : Nat → Int32) (mct_40 : Int32) (mtk_40 : Int32) (post : Int32 → Int32 → (Nat → Int32) → (Nat → Int32) → (Nat → Int32) → (Nat → Int32) → (Nat → Int32) → (Nat → Int32) → Int32 → Int32 → (Nat → Int32) → (Nat → Int32) → Int32 → (Nat → Int32) → (Nat → Int32) → Int32 → Int32 → Prop) : Prop :=
  wqR_make_43 mwd men y1_40 y2_40 y3_40 y4_40 (0 : Int32) mcd_40 mR_40 mI_40 mC_40 mY_40 mZ_40 mF_40 mmd_40 mhi_40 mL_40 mN_40 mfr_40 mX_40 mT_40 mct_40 mtk_40 post
def wqR_make_36 (mwd : Int32) (men : Int32) (y1_36 : Int32) (y2_36 : Int32) (y3_36 : Int32) (y4_36 : Int32) (mcd_36 : Int32) (mR_36 : Nat → Int32) (mI_36 : Nat → Int32) (mC_36 : Nat → Int32) (mY_36 : Nat → Int32) (mZ_36 : Nat → Int32) (mF_36 : Nat → Int32) (mmd_36 : Int32) (mhi_36 : Int32) (mL_36 : Nat → Int32) (mN_36 : Nat → Int32) (mfr_36 : Int32) (mX_36 : Nat → Int32) (mT_36 : Nat → Int32) (mct_36 : Int32) (mtk_36 : Int32) (post : Int32 → Int32 → (Nat → Int32) → (Nat → Int32) → (Nat → Int32) → (Nat → Int32) → (Nat → Int32) → (Nat → Int32) → Int32 → Int32 → (Nat → Int32) → (Nat → Int32) → Int32 → (Nat → Int32) → (Nat → Int32) → Int32 → Int32 → Prop) : Prop :=
  wqR_make_43 mwd men y1_36 y2_36 y3_36 y4_36 (1 : Int32) mcd_36 mR_36 mI_36 mC_36 mY_36 mZ_36 mF_36 mmd_36 mhi_36 mL_36 mN_36 mfr_36 mX_36 mT_36 mct_36 mtk_36 post
def wqR_make (mcd : Int32) (mwd : Int32) (men : Int32) (mR : Nat → Int32) (mI : Nat → Int32) (mC : Nat → Int32) (mY : Nat → Int32) (mZ : Nat → Int32) (mF : Nat → Int32) (mmd : Int32) (mhi : Int32) (mL : Nat → Int32) (mN : Nat → Int32) (mfr : Int32) (mX : Nat → Int32) (mT : Nat → Int32) (mct : Int32) (mtk : Int32) (a1 : Int32) (a2 : Int32) (a3 : Int32) (a4 : Int32) (post : Int32 → Int32 → (Nat → Int32) → (Nat → Int32) → (Nat → Int32) → (Nat → Int32) → (Nat → Int32) → (Nat → Int32) → Int32 → Int32 → (Nat → Int32) → (Nat → Int32) → Int32 → (Nat → Int32) → (Nat → Int32) → Int32 → Int32 → Prop) : Prop :=
  wqR_isRegister a1 (fun r1 => (r1 = 0 → (wqR_make_40 mwd men a1 a2 a3 a4 mcd mR mI mC mY mZ mF mmd mhi mL mN mfr mX mT mct mtk post)) ∧ (¬ (r1 = 0) → (wqR_isRegister a2 (fun r8 => (r8 = 0 → (wqR_make_40 mwd men a1 a2 a3 a4 mcd mR mI mC mY mZ mF mmd mhi mL mN mfr mX mT mct mtk post)) ∧ (¬ (r8 = 0) → ((a3 < 0 → (wqR_make_40 mwd men a1 a2 a3 a4 mcd mR mI mC mY mZ mF mmd mhi mL mN mfr mX mT mct mtk post)) ∧ (¬ (a3 < 0) → ((a4 = 0 → (((16000 : Int32) < a3 → (wqR_make_40 mwd men a1 a2 a3 a4 mcd mR mI mC mY mZ mF mmd mhi mL mN mfr mX mT mct mtk post)) ∧ (¬ ((16000 : Int32) < a3) → (wqR_make_36 mwd men a1 a2 a3 a4 mcd mR mI mC mY mZ mF mmd mhi mL mN mfr mX mT mct mtk post)))) ∧ (¬ (a4 = 0) → (((4000 : Int32) < a3 → (wqR_make_40 mwd men a1 a2 a3 a4 mcd mR mI mC mY mZ mF mmd mhi mL mN mfr mX mT mct mtk post)) ∧ (¬ ((4000 : Int32) < a3) → (wqR_make_36 mwd men a1 a2 a3 a4 mcd mR mI mC mY mZ mF mmd mhi mL mN mfr mX mT mct mtk post))))))))))))
set_option maxHeartbeats 4000000 in
set_option maxRecDepth 100000 in
theorem mR_make (l : Launch) (dC : Nat → ClassId) (dI : Nat → Nat → Nat) (cI : ClassId) (cZ : ClassId) (b0 : Nat) (bR : Nat) (bI : Nat) (bC : Nat) (bY : Nat) (bZ : Nat) (bF : Nat) (bL : Nat) (bN : Nat) (bX : Nat) (bT : Nat) (sz : Nat) (mcd : Int32) (mwd : Int32) (men : Int32) (mR : Nat → Int32) (mI : Nat → Int32) (mC : Nat → Int32) (mY : Nat → Int32) (mZ : Nat → Int32) (mF : Nat → Int32) (mmd : Int32) (mhi : Int32) (mL : Nat → Int32) (mN : Nat → Int32) (mfr : Int32) (mX : Nat → Int32) (mT : Nat → Int32) (mct : Int32) (mtk : Int32) (a1 : Int32) (a2 : Int32) (a3 : Int32) (a4 : Int32) (post : Int32 → Int32 → (Nat → Int32) → (Nat → Int32) → (Nat → Int32) → (Nat → Int32) → (Nat → Int32) → (Nat → Int32) → Int32 → Int32 → (Nat → Int32) → (Nat → Int32) → Int32 → (Nat → Int32) → (Nat → Int32) → Int32 → Int32 → Prop) (h : wqR_make mcd mwd men mR mI mC mY mZ mF mmd mhi mL mN mfr mX mT mct mtk a1 a2 a3 a4 post) : Met l y_R_make ws_R_make ({ frames := 5, cells := 0, slots := 0, locals := 108 }) (rw_P (dC, dI) vwCl (RSw cI cZ b0 bR bI bC bY bZ bF bL bN bX bT mcd mwd men mR mI mC mY mZ mF mmd mhi mL mN mfr mX mT mct mtk) [(cI, .int), (cZ, .boolean)] sz [.ref b0, .int a1, .int a2, .int a3, .int a4]) (va_Qi (fun (r : Int32) (u : Int32 × (Nat → Int32) × (Nat → Int32) × (Nat → Int32) × (Nat → Int32) × (Nat → Int32) × (Nat → Int32) × Int32 × Int32 × (Nat → Int32) × (Nat → Int32) × Int32 × (Nat → Int32) × (Nat → Int32) × Int32 × Int32) => post r u.1 u.2.1 u.2.2.1 u.2.2.2.1 u.2.2.2.2.1 u.2.2.2.2.2.1 u.2.2.2.2.2.2.1 u.2.2.2.2.2.2.2.1 u.2.2.2.2.2.2.2.2.1 u.2.2.2.2.2.2.2.2.2.1 u.2.2.2.2.2.2.2.2.2.2.1 u.2.2.2.2.2.2.2.2.2.2.2.1 u.2.2.2.2.2.2.2.2.2.2.2.2.1 u.2.2.2.2.2.2.2.2.2.2.2.2.2.1 u.2.2.2.2.2.2.2.2.2.2.2.2.2.2.1 u.2.2.2.2.2.2.2.2.2.2.2.2.2.2.2) (rw_B (dC, dI) vwCl [(cI, .int), (cZ, .boolean)] (va_A (RSw cI cZ b0 bR bI bC bY bZ bF bL bN bX bT mcd mwd men mR mI mC mY mZ mF mmd mhi mL mN mfr mX mT mct mtk) sz) (fun u : Int32 × (Nat → Int32) × (Nat → Int32) × (Nat → Int32) × (Nat → Int32) × (Nat → Int32) × (Nat → Int32) × Int32 × Int32 × (Nat → Int32) × (Nat → Int32) × Int32 × (Nat → Int32) × (Nat → Int32) × Int32 × Int32 => RSw cI cZ b0 bR bI bC bY bZ bF bL bN bX bT u.1 mwd men u.2.1 u.2.2.1 u.2.2.2.1 u.2.2.2.2.1 u.2.2.2.2.2.1 u.2.2.2.2.2.2.1 u.2.2.2.2.2.2.2.1 u.2.2.2.2.2.2.2.2.1 u.2.2.2.2.2.2.2.2.2.1 u.2.2.2.2.2.2.2.2.2.2.1 u.2.2.2.2.2.2.2.2.2.2.2.1 u.2.2.2.2.2.2.2.2.2.2.2.2.1 u.2.2.2.2.2.2.2.2.2.2.2.2.2.1 u.2.2.2.2.2.2.2.2.2.2.2.2.2.2.1 u.2.2.2.2.2.2.2.2.2.2.2.2.2.2.2)) (va_A (RSw cI cZ b0 bR bI bC bY bZ bF bL bN bX bT mcd mwd men mR mI mC mY mZ mF mmd mhi mL mN mfr mX mT mct mtk) sz)) 0 0 (va_A (RSw cI cZ b0 bR bI bC bY bZ bF bL bN bX bT mcd mwd men mR mI mC mY mZ mF mmd mhi mL mN mfr mX mT mct mtk) sz) := by
  refine Met.ofW (cc := c_R_make) (maxL := 7) (ret := (some .int)) (by decide) rfl ?_
  intro p e s m args below meth c s₁ B hml hv
  obtain ⟨rfl, hsz, hP, hK, hD0⟩ := hv
  have hx := B.exec
  have hb := B.bytes
  have hr9 := B.returns
  have hts := atoms_spec (ws := ws_R_make) B.pre
  have hw : ∀ w ∈ WB_, w.before _ s = true := fun w h => hts w (List.mem_cons_of_mem _ h)
  have hown : s.vm.findClass R_R = some m.cls := findClass_of_methodNamed B.named
  have hlocks := B.notSynchronized
  subst hsz
  have hD := hD0.self (sz := s.heap.size)
  generalize hAe : va_A (RSw cI cZ b0 bR bI bC bY bZ bF bL bN bX bT mcd mwd men mR mI mC mY mZ mF mmd mhi mL mN mfr mX mT mct mtk) s.heap.size = A at hD ⊢
  have hA : ∀ q : Nat, s.heap.size ≤ q → A q := fun q h => by rw [← hAe]; exact Or.inr h
  have hS : va_S A s.heap s.heap [] := va_S.rf
  have hl := lv_entry ([.ref b0, .int a1, .int a2, .int a3, .int a4]) (n := 7) (Nat.le_of_ble_eq_true rfl)
  rw [lg_entry_eq]
  generalize (lg_sl ([.ref b0, .int a1, .int a2, .int a3, .int a4]) ++ List.replicate (7 - (lg_sl ([.ref b0, .int a1, .int a2, .int a3, .int a4])).length) Slot.unset).toArray = ls at hl ⊢
  have hl : lv_has ls 7 [(0, .ref b0), (1, .int a1), (2, .int a2), (3, .int a3), (4, .int a4)] := hl
  have lp_111 : ∀ (y1_111 : Int32) (y2_111 : Int32) (y3_111 : Int32) (y4_111 : Int32) (y5_111 : Int32) (y6_111 : Int32) (mcd_111 : Int32) (mR_111 : Nat → Int32) (mI_111 : Nat → Int32) (mC_111 : Nat → Int32) (mY_111 : Nat → Int32) (mZ_111 : Nat → Int32) (mF_111 : Nat → Int32) (mmd_111 : Int32) (mhi_111 : Int32) (mL_111 : Nat → Int32) (mN_111 : Nat → Int32) (mfr_111 : Int32) (mX_111 : Nat → Int32) (mT_111 : Nat → Int32) (mct_111 : Int32) (mtk_111 : Int32) (H : Heap) (locs : List Loc) (ls : Array Slot), va_P (dC, dI) vwCl (RSw cI cZ b0 bR bI bC bY bZ bF bL bN bX bT mcd_111 mwd men mR_111 mI_111 mC_111 mY_111 mZ_111 mF_111 mmd_111 mhi_111 mL_111 mN_111 mfr_111 mX_111 mT_111 mct_111 mtk_111) H → va_D A (RSw cI cZ b0 bR bI bC bY bZ bF bL bN bX bT mcd_111 mwd men mR_111 mI_111 mC_111 mY_111 mZ_111 mF_111 mmd_111 mhi_111 mL_111 mN_111 mfr_111 mX_111 mT_111 mct_111 mtk_111) → va_S A s.heap H locs → lv_has ls 7 [(0, .ref b0), (1, .int y1_111), (2, .int y2_111), (3, .int y3_111), (4, .int y4_111), (5, .int y5_111), (6, .int y6_111)] → wqR_make_111 mwd men y1_111 y2_111 y3_111 y4_111 y5_111 y6_111 mcd_111 mR_111 mI_111 mC_111 mY_111 mZ_111 mF_111 mmd_111 mhi_111 mL_111 mN_111 mfr_111 mX_111 mT_111 mct_111 mtk_111 post → W p l e (headSpec ws_R_make ({ frames := 5, cells := 0, slots := 0, locals := 108 })).room s m ([.ref b0, .int a1, .int a2, .int a3, .int a4] : List Value).toArray below meth c H locs (0) (0) (MQ below (va_Qi (fun (r : Int32) (u : Int32 × (Nat → Int32) × (Nat → Int32) × (Nat → Int32) × (Nat → Int32) × (Nat → Int32) × (Nat → Int32) × Int32 × Int32 × (Nat → Int32) × (Nat → Int32) × Int32 × (Nat → Int32) × (Nat → Int32) × Int32 × Int32) => post r u.1 u.2.1 u.2.2.1 u.2.2.2.1 u.2.2.2.2.1 u.2.2.2.2.2.1 u.2.2.2.2.2.2.1 u.2.2.2.2.2.2.2.1 u.2.2.2.2.2.2.2.2.1 u.2.2.2.2.2.2.2.2.2.1 u.2.2.2.2.2.2.2.2.2.2.1 u.2.2.2.2.2.2.2.2.2.2.2.1 u.2.2.2.2.2.2.2.2.2.2.2.2.1 u.2.2.2.2.2.2.2.2.2.2.2.2.2.1 u.2.2.2.2.2.2.2.2.2.2.2.2.2.2.1 u.2.2.2.2.2.2.2.2.2.2.2.2.2.2.2) (rw_B (dC, dI) vwCl [(cI, .int), (cZ, .boolean)] A (fun u : Int32 × (Nat → Int32) × (Nat → Int32) × (Nat → Int32) × (Nat → Int32) × (Nat → Int32) × (Nat → Int32) × Int32 × Int32 × (Nat → Int32) × (Nat → Int32) × Int32 × (Nat → Int32) × (Nat → Int32) × Int32 × Int32 => RSw cI cZ b0 bR bI bC bY bZ bF bL bN bX bT u.1 mwd men u.2.1 u.2.2.1 u.2.2.2.1 u.2.2.2.2.1 u.2.2.2.2.2.1 u.2.2.2.2.2.2.1 u.2.2.2.2.2.2.2.1 u.2.2.2.2.2.2.2.2.1 u.2.2.2.2.2.2.2.2.2.1 u.2.2.2.2.2.2.2.2.2.2.1 u.2.2.2.2.2.2.2.2.2.2.2.1 u.2.2.2.2.2.2.2.2.2.2.2.2.1 u.2.2.2.2.2.2.2.2.2.2.2.2.2.1 u.2.2.2.2.2.2.2.2.2.2.2.2.2.2.1 u.2.2.2.2.2.2.2.2.2.2.2.2.2.2.2)) A) ([.ref b0, .int a1, .int a2, .int a3, .int a4] : List Value).toArray s 0 0 A) (F0 m 111 ls []) := by
    intro y1_111 y2_111 y3_111 y4_111 y5_111 y6_111 mcd_111 mR_111 mI_111 mC_111 mY_111 mZ_111 mF_111 mmd_111 mhi_111 mL_111 mN_111 mfr_111 mX_111 mT_111 mct_111 mtk_111 H locs ls hP hD hS hl h
    unfold wqR_make_111 at h
    refine lv_aload_n hx hb d_R_make_111 rfl (lv_at hl 0 rfl) ?_
    refine va_get (D := (dC, dI)) (ci := 2) (v := .ref bR) (C := R_R) (T := T_R) (N := 18) hx hb hw in_R hown hK hP 0 rfl rfl 3 (by decide) (hw _ wd_619) (fun _ h9 => h9) rfl d_R_make_112 ?_
    refine lv_iload_n hx hb d_R_make_115 rfl (lv_at hl 1 rfl) ?_
    refine lv_iload hx hb d_R_make_116 (lv_at hl 6 rfl) ?_
    refine rq_calli (W.runS (As := [.int y6_111]) (rest := [.int y1_111, .ref bR]) ⟨hx, hb, hml, hown, hw⟩ (mR_valueOf l y6_111 _ h) (va_cwS 1 hw g_R_111 rfl rfl rfl (by decide +kernel) ⟨Nat.le_of_ble_eq_true rfl, Nat.le_of_ble_eq_true rfl⟩) preEq rfl rfl hl.1 rfl (lv_room (Nat.le_of_ble_eq_true rfl)) d_R_make_118 ⟨Nat.le_of_ble_eq_true rfl, Nat.le_of_ble_eq_true rfl⟩) (fun r118 h => ?_)
    refine va_iast hx hb hK hP hD hS 1 0 rfl rfl h.1 d_R_make_121 (fun H locs hP hD hS => ?_)
    have hP : va_P (dC, dI) vwCl (RSw cI cZ b0 bR bI bC bY bZ bF bL bN bX bT mcd_111 mwd men (upd mR_111 y1_111.toNatClampNeg r118) mI_111 mC_111 mY_111 mZ_111 mF_111 mmd_111 mhi_111 mL_111 mN_111 mfr_111 mX_111 mT_111 mct_111 mtk_111) H := hP
    have hD : va_D A (RSw cI cZ b0 bR bI bC bY bZ bF bL bN bX bT mcd_111 mwd men (upd mR_111 y1_111.toNatClampNeg r118) mI_111 mC_111 mY_111 mZ_111 mF_111 mmd_111 mhi_111 mL_111 mN_111 mfr_111 mX_111 mT_111 mct_111 mtk_111) := hD
    have h := h.2
    refine lv_aload_n hx hb d_R_make_122 rfl (lv_at hl 0 rfl) ?_
    refine va_get (D := (dC, dI)) (ci := 2) (v := .int mmd_111) (C := R_R) (T := T_R) (N := 18) hx hb hw in_R hown hK hP 0 rfl rfl 9 (by decide) (hw _ wd_625) (fun _ h9 => h9) rfl d_R_make_123 ?_
    exact W.iret (v := mmd_111) hx hb hr9 (fun t ht hW => ⟨⟨_, (mcd_111, upd mR_111 y1_111.toNatClampNeg r118, mI_111, mC_111, mY_111, mZ_111, mF_111, mmd_111, mhi_111, mL_111, mN_111, mfr_111, mX_111, mT_111, mct_111, mtk_111), rfl, h, by rw [ht]; exact hP, va_K.moved hW.alike hK, hD⟩, hS.F ht⟩) hS.2.2 d_R_make_126
  have lp_79 : ∀ (y1_79 : Int32) (y2_79 : Int32) (y3_79 : Int32) (y4_79 : Int32) (y5_79 : Int32) (mcd_79 : Int32) (mR_79 : Nat → Int32) (mI_79 : Nat → Int32) (mC_79 : Nat → Int32) (mY_79 : Nat → Int32) (mZ_79 : Nat → Int32) (mF_79 : Nat → Int32) (mmd_79 : Int32) (mhi_79 : Int32) (mL_79 : Nat → Int32) (mN_79 : Nat → Int32) (mfr_79 : Int32) (mX_79 : Nat → Int32) (mT_79 : Nat → Int32) (mct_79 : Int32) (mtk_79 : Int32) (H : Heap) (locs : List Loc) (ls : Array Slot), va_P (dC, dI) vwCl (RSw cI cZ b0 bR bI bC bY bZ bF bL bN bX bT mcd_79 mwd men mR_79 mI_79 mC_79 mY_79 mZ_79 mF_79 mmd_79 mhi_79 mL_79 mN_79 mfr_79 mX_79 mT_79 mct_79 mtk_79) H → va_D A (RSw cI cZ b0 bR bI bC bY bZ bF bL bN bX bT mcd_79 mwd men mR_79 mI_79 mC_79 mY_79 mZ_79 mF_79 mmd_79 mhi_79 mL_79 mN_79 mfr_79 mX_79 mT_79 mct_79 mtk_79) → va_S A s.heap H locs → lv_has ls 7 [(0, .ref b0), (1, .int y1_79), (2, .int y2_79), (3, .int y3_79), (4, .int y4_79), (5, .int y5_79)] → wqR_make_79 mwd men y1_79 y2_79 y3_79 y4_79 y5_79 mcd_79 mR_79 mI_79 mC_79 mY_79 mZ_79 mF_79 mmd_79 mhi_79 mL_79 mN_79 mfr_79 mX_79 mT_79 mct_79 mtk_79 post → W p l e (headSpec ws_R_make ({ frames := 5, cells := 0, slots := 0, locals := 108 })).room s m ([.ref b0, .int a1, .int a2, .int a3, .int a4] : List Value).toArray below meth c H locs (0) (0) (MQ below (va_Qi (fun (r : Int32) (u : Int32 × (Nat → Int32) × (Nat → Int32) × (Nat → Int32) × (Nat → Int32) × (Nat → Int32) × (Nat → Int32) × Int32 × Int32 × (Nat → Int32) × (Nat → Int32) × Int32 × (Nat → Int32) × (Nat → Int32) × Int32 × Int32) => post r u.1 u.2.1 u.2.2.1 u.2.2.2.1 u.2.2.2.2.1 u.2.2.2.2.2.1 u.2.2.2.2.2.2.1 u.2.2.2.2.2.2.2.1 u.2.2.2.2.2.2.2.2.1 u.2.2.2.2.2.2.2.2.2.1 u.2.2.2.2.2.2.2.2.2.2.1 u.2.2.2.2.2.2.2.2.2.2.2.1 u.2.2.2.2.2.2.2.2.2.2.2.2.1 u.2.2.2.2.2.2.2.2.2.2.2.2.2.1 u.2.2.2.2.2.2.2.2.2.2.2.2.2.2.1 u.2.2.2.2.2.2.2.2.2.2.2.2.2.2.2) (rw_B (dC, dI) vwCl [(cI, .int), (cZ, .boolean)] A (fun u : Int32 × (Nat → Int32) × (Nat → Int32) × (Nat → Int32) × (Nat → Int32) × (Nat → Int32) × (Nat → Int32) × Int32 × Int32 × (Nat → Int32) × (Nat → Int32) × Int32 × (Nat → Int32) × (Nat → Int32) × Int32 × Int32 => RSw cI cZ b0 bR bI bC bY bZ bF bL bN bX bT u.1 mwd men u.2.1 u.2.2.1 u.2.2.2.1 u.2.2.2.2.1 u.2.2.2.2.2.1 u.2.2.2.2.2.2.1 u.2.2.2.2.2.2.2.1 u.2.2.2.2.2.2.2.2.1 u.2.2.2.2.2.2.2.2.2.1 u.2.2.2.2.2.2.2.2.2.2.1 u.2.2.2.2.2.2.2.2.2.2.2.1 u.2.2.2.2.2.2.2.2.2.2.2.2.1 u.2.2.2.2.2.2.2.2.2.2.2.2.2.1 u.2.2.2.2.2.2.2.2.2.2.2.2.2.2.1 u.2.2.2.2.2.2.2.2.2.2.2.2.2.2.2)) A) ([.ref b0, .int a1, .int a2, .int a3, .int a4] : List Value).toArray s 0 0 A) (F0 m 79 ls []) := by
    intro y1_79 y2_79 y3_79 y4_79 y5_79 mcd_79 mR_79 mI_79 mC_79 mY_79 mZ_79 mF_79 mmd_79 mhi_79 mL_79 mN_79 mfr_79 mX_79 mT_79 mct_79 mtk_79 H locs ls hP hD hS hl h
    unfold wqR_make_79 at h
    refine lv_aload_n hx hb d_R_make_79 rfl (lv_at hl 0 rfl) ?_
    refine va_get (D := (dC, dI)) (ci := 2) (v := .int mcd_79) (C := R_R) (T := T_R) (N := 18) hx hb hw in_R hown hK hP 0 rfl rfl 0 (by decide) (hw _ wd_616) (fun _ h9 => h9) rfl d_R_make_80 ?_
    refine lv_if_le (tgt := 88) hx hb d_R_make_83 (by decide) (fun c_83 => ?_) (fun c_83 => ?_)
    · have h := h.1 c_83
      refine lv_aload_n hx hb d_R_make_88 rfl (lv_at hl 0 rfl) ?_
      refine lv_aload_n hx hb d_R_make_89 rfl (lv_at hl 0 rfl) ?_
      refine va_get (D := (dC, dI)) (ci := 2) (v := .ref bR) (C := R_R) (T := T_R) (N := 18) hx hb hw in_R hown hK hP 0 rfl rfl 3 (by decide) (hw _ wd_619) (fun _ h9 => h9) rfl d_R_make_90 ?_
      refine lv_iload_n hx hb d_R_make_93 rfl (lv_at hl 2 rfl) ?_
      refine va_iald hx hb hK hP 1 0 rfl rfl h.1 d_R_make_94 ?_
      have h := h.2
      refine lv_iload_n hx hb d_R_make_95 rfl (lv_at hl 3 rfl) ?_
      refine lv_iload hx hb d_R_make_96 (lv_at hl 4 rfl) ?_
      refine lv_if_ne (tgt := 105) hx hb d_R_make_98 (by decide) (fun c_98 => ?_) (fun c_98 => ?_)
      · have h := h.2 c_98
        refine lv_iconst (v := (0 : Int32)) hx hb d_R_make_105 (by decide) ?_
        have hFc := va_free (wc := RSw cI cZ b0 bR bI bC bY bZ bF bL bN bX bT mcd_79 mwd men mR_79 mI_79 mC_79 mY_79 mZ_79 mF_79 mmd_79 mhi_79 mL_79 mN_79 mfr_79 mX_79 mT_79 mct_79 mtk_79) hD hS hA [0, 1, 2, 3, 4, 5, 6, 7, 8, 9, 10] rfl
        refine va_calli (va_runV (As := [.int (mR_79 y2_79.toNatClampNeg), .int y3_79, .int (0 : Int32)]) (rest := []) ⟨hx, hb, hml, hown, hw⟩ (mR_add l dC dI cI cZ b0 bR bI bC bY bZ bF bL bN bX bT H.size mcd_79 mwd men mR_79 mI_79 mC_79 mY_79 mZ_79 mF_79 mmd_79 mhi_79 mL_79 mN_79 mfr_79 mX_79 mT_79 mct_79 mtk_79 (mR_79 y2_79.toNatClampNeg) y3_79 (0 : Int32) _ h) (cwV 3 hw g_R_107 rfl rfl rfl (by decide +kernel) ⟨Nat.le_of_ble_eq_true rfl, Nat.le_of_ble_eq_true rfl⟩) (rw_PV (ci := 2) (q0 := 0) hK hP hD rfl rfl) rfl rfl hl.1 rfl (lv_room (Nat.le_of_ble_eq_true rfl)) d_R_make_106 ⟨Nat.le_of_ble_eq_true rfl, Nat.le_of_ble_eq_true rfl⟩) hS (fun q _ h => hFc q h) hFc (fun r106 u t H locs ht hvm h hB hz1 hk1 hS => ?_)
        obtain ⟨mI_106, mC_106, mY_106, mZ_106, mF_106, mmd_106, mhi_106, mL_106, mN_106, mfr_106⟩ := u
        obtain ⟨hP, hK1, hD1⟩ := hB
        rw [ht] at hP
        have hD := hD1.weaken (fun _ _ _ q => hFc _ q)
        clear hFc hD1 hK1
        try dsimp only at h
        have hP : va_P (dC, dI) vwCl (RSw cI cZ b0 bR bI bC bY bZ bF bL bN bX bT mcd_79 mwd men mR_79 mI_106 mC_106 mY_106 mZ_106 mF_106 mmd_106 mhi_106 mL_106 mN_106 mfr_106 mX_79 mT_79 mct_79 mtk_79) H := hP
        have hD : va_D A (RSw cI cZ b0 bR bI bC bY bZ bF bL bN bX bT mcd_79 mwd men mR_79 mI_106 mC_106 mY_106 mZ_106 mF_106 mmd_106 mhi_106 mL_106 mN_106 mfr_106 mX_79 mT_79 mct_79 mtk_79) := hD
        refine lv_istore (lv' := [(6, .int r106), (0, .ref b0), (1, .int y1_79), (2, .int y2_79), (3, .int y3_79), (4, .int y4_79), (5, .int y5_79)]) hx hb d_R_make_109 hl (by decide) rfl (fun ls hl => ?_)
        exact lp_111 y1_79 y2_79 y3_79 y4_79 y5_79 r106 mcd_79 mR_79 mI_106 mC_106 mY_106 mZ_106 mF_106 mmd_106 mhi_106 mL_106 mN_106 mfr_106 mX_79 mT_79 mct_79 mtk_79 H locs ls hP hD hS (lv_sub hl [1, 2, 3, 4, 5, 6, 0] rfl) h
      · have h := h.1 c_98
        refine lv_iconst (v := (1 : Int32)) hx hb d_R_make_101 (by decide) ?_
        refine lv_goto (tgt := 106) hx hb d_R_make_102 (by decide) ?_
        have hFc := va_free (wc := RSw cI cZ b0 bR bI bC bY bZ bF bL bN bX bT mcd_79 mwd men mR_79 mI_79 mC_79 mY_79 mZ_79 mF_79 mmd_79 mhi_79 mL_79 mN_79 mfr_79 mX_79 mT_79 mct_79 mtk_79) hD hS hA [0, 1, 2, 3, 4, 5, 6, 7, 8, 9, 10] rfl
        refine va_calli (va_runV (As := [.int (mR_79 y2_79.toNatClampNeg), .int y3_79, .int (1 : Int32)]) (rest := []) ⟨hx, hb, hml, hown, hw⟩ (mR_add l dC dI cI cZ b0 bR bI bC bY bZ bF bL bN bX bT H.size mcd_79 mwd men mR_79 mI_79 mC_79 mY_79 mZ_79 mF_79 mmd_79 mhi_79 mL_79 mN_79 mfr_79 mX_79 mT_79 mct_79 mtk_79 (mR_79 y2_79.toNatClampNeg) y3_79 (1 : Int32) _ h) (cwV 3 hw g_R_107 rfl rfl rfl (by decide +kernel) ⟨Nat.le_of_ble_eq_true rfl, Nat.le_of_ble_eq_true rfl⟩) (rw_PV (ci := 2) (q0 := 0) hK hP hD rfl rfl) rfl rfl hl.1 rfl (lv_room (Nat.le_of_ble_eq_true rfl)) d_R_make_106 ⟨Nat.le_of_ble_eq_true rfl, Nat.le_of_ble_eq_true rfl⟩) hS (fun q _ h => hFc q h) hFc (fun r106 u t H locs ht hvm h hB hz1 hk1 hS => ?_)
        obtain ⟨mI_106, mC_106, mY_106, mZ_106, mF_106, mmd_106, mhi_106, mL_106, mN_106, mfr_106⟩ := u
        obtain ⟨hP, hK1, hD1⟩ := hB
        rw [ht] at hP
        have hD := hD1.weaken (fun _ _ _ q => hFc _ q)
        clear hFc hD1 hK1
        try dsimp only at h
        have hP : va_P (dC, dI) vwCl (RSw cI cZ b0 bR bI bC bY bZ bF bL bN bX bT mcd_79 mwd men mR_79 mI_106 mC_106 mY_106 mZ_106 mF_106 mmd_106 mhi_106 mL_106 mN_106 mfr_106 mX_79 mT_79 mct_79 mtk_79) H := hP
        have hD : va_D A (RSw cI cZ b0 bR bI bC bY bZ bF bL bN bX bT mcd_79 mwd men mR_79 mI_106 mC_106 mY_106 mZ_106 mF_106 mmd_106 mhi_106 mL_106 mN_106 mfr_106 mX_79 mT_79 mct_79 mtk_79) := hD
        refine lv_istore (lv' := [(6, .int r106), (0, .ref b0), (1, .int y1_79), (2, .int y2_79), (3, .int y3_79), (4, .int y4_79), (5, .int y5_79)]) hx hb d_R_make_109 hl (by decide) rfl (fun ls hl => ?_)
        exact lp_111 y1_79 y2_79 y3_79 y4_79 y5_79 r106 mcd_79 mR_79 mI_106 mC_106 mY_106 mZ_106 mF_106 mmd_106 mhi_106 mL_106 mN_106 mfr_106 mX_79 mT_79 mct_79 mtk_79 H locs ls hP hD hS (lv_sub hl [1, 2, 3, 4, 5, 6, 0] rfl) h
    · have h := h.2 c_83
      refine lv_iconst (v := (0 : Int32)) hx hb d_R_make_86 (by decide) ?_
      exact W.iret (v := (0 : Int32)) hx hb hr9 (fun t ht hW => ⟨⟨_, (mcd_79, mR_79, mI_79, mC_79, mY_79, mZ_79, mF_79, mmd_79, mhi_79, mL_79, mN_79, mfr_79, mX_79, mT_79, mct_79, mtk_79), rfl, h, by rw [ht]; exact hP, va_K.moved hW.alike hK, hD⟩, hS.F ht⟩) hS.2.2 d_R_make_87
  have lp_43 : ∀ (y1_43 : Int32) (y2_43 : Int32) (y3_43 : Int32) (y4_43 : Int32) (y5_43 : Int32) (mcd_43 : Int32) (mR_43 : Nat → Int32) (mI_43 : Nat → Int32) (mC_43 : Nat → Int32) (mY_43 : Nat → Int32) (mZ_43 : Nat → Int32) (mF_43 : Nat → Int32) (mmd_43 : Int32) (mhi_43 : Int32) (mL_43 : Nat → Int32) (mN_43 : Nat → Int32) (mfr_43 : Int32) (mX_43 : Nat → Int32) (mT_43 : Nat → Int32) (mct_43 : Int32) (mtk_43 : Int32) (H : Heap) (locs : List Loc) (ls : Array Slot), va_P (dC, dI) vwCl (RSw cI cZ b0 bR bI bC bY bZ bF bL bN bX bT mcd_43 mwd men mR_43 mI_43 mC_43 mY_43 mZ_43 mF_43 mmd_43 mhi_43 mL_43 mN_43 mfr_43 mX_43 mT_43 mct_43 mtk_43) H → va_D A (RSw cI cZ b0 bR bI bC bY bZ bF bL bN bX bT mcd_43 mwd men mR_43 mI_43 mC_43 mY_43 mZ_43 mF_43 mmd_43 mhi_43 mL_43 mN_43 mfr_43 mX_43 mT_43 mct_43 mtk_43) → va_S A s.heap H locs → lv_has ls 7 [(0, .ref b0), (1, .int y1_43), (2, .int y2_43), (3, .int y3_43), (4, .int y4_43), (5, .int y5_43)] → wqR_make_43 mwd men y1_43 y2_43 y3_43 y4_43 y5_43 mcd_43 mR_43 mI_43 mC_43 mY_43 mZ_43 mF_43 mmd_43 mhi_43 mL_43 mN_43 mfr_43 mX_43 mT_43 mct_43 mtk_43 post → W p l e (headSpec ws_R_make ({ frames := 5, cells := 0, slots := 0, locals := 108 })).room s m ([.ref b0, .int a1, .int a2, .int a3, .int a4] : List Value).toArray below meth c H locs (0) (0) (MQ below (va_Qi (fun (r : Int32) (u : Int32 × (Nat → Int32) × (Nat → Int32) × (Nat → Int32) × (Nat → Int32) × (Nat → Int32) × (Nat → Int32) × Int32 × Int32 × (Nat → Int32) × (Nat → Int32) × Int32 × (Nat → Int32) × (Nat → Int32) × Int32 × Int32) => post r u.1 u.2.1 u.2.2.1 u.2.2.2.1 u.2.2.2.2.1 u.2.2.2.2.2.1 u.2.2.2.2.2.2.1 u.2.2.2.2.2.2.2.1 u.2.2.2.2.2.2.2.2.1 u.2.2.2.2.2.2.2.2.2.1 u.2.2.2.2.2.2.2.2.2.2.1 u.2.2.2.2.2.2.2.2.2.2.2.1 u.2.2.2.2.2.2.2.2.2.2.2.2.1 u.2.2.2.2.2.2.2.2.2.2.2.2.2.1 u.2.2.2.2.2.2.2.2.2.2.2.2.2.2.1 u.2.2.2.2.2.2.2.2.2.2.2.2.2.2.2) (rw_B (dC, dI) vwCl [(cI, .int), (cZ, .boolean)] A (fun u : Int32 × (Nat → Int32) × (Nat → Int32) × (Nat → Int32) × (Nat → Int32) × (Nat → Int32) × (Nat → Int32) × Int32 × Int32 × (Nat → Int32) × (Nat → Int32) × Int32 × (Nat → Int32) × (Nat → Int32) × Int32 × Int32 => RSw cI cZ b0 bR bI bC bY bZ bF bL bN bX bT u.1 mwd men u.2.1 u.2.2.1 u.2.2.2.1 u.2.2.2.2.1 u.2.2.2.2.2.1 u.2.2.2.2.2.2.1 u.2.2.2.2.2.2.2.1 u.2.2.2.2.2.2.2.2.1 u.2.2.2.2.2.2.2.2.2.1 u.2.2.2.2.2.2.2.2.2.2.1 u.2.2.2.2.2.2.2.2.2.2.2.1 u.2.2.2.2.2.2.2.2.2.2.2.2.1 u.2.2.2.2.2.2.2.2.2.2.2.2.2.1 u.2.2.2.2.2.2.2.2.2.2.2.2.2.2.1 u.2.2.2.2.2.2.2.2.2.2.2.2.2.2.2)) A) ([.ref b0, .int a1, .int a2, .int a3, .int a4] : List Value).toArray s 0 0 A) (F0 m 43 ls []) := by
    intro y1_43 y2_43 y3_43 y4_43 y5_43 mcd_43 mR_43 mI_43 mC_43 mY_43 mZ_43 mF_43 mmd_43 mhi_43 mL_43 mN_43 mfr_43 mX_43 mT_43 mct_43 mtk_43 H locs ls hP hD hS hl h
    unfold wqR_make_43 at h
    refine lv_aload_n hx hb d_R_make_43 rfl (lv_at hl 0 rfl) ?_
    refine lv_iload hx hb d_R_make_44 (lv_at hl 5 rfl) ?_
    refine lv_if_ne (tgt := 53) hx hb d_R_make_46 (by decide) (fun c_46 => ?_) (fun c_46 => ?_)
    · have h := h.2 c_46
      refine lv_aload_n hx hb d_R_make_53 rfl (lv_at hl 0 rfl) ?_
      refine lv_iload_n hx hb d_R_make_54 rfl (lv_at hl 3 rfl) ?_
      refine lv_iload hx hb d_R_make_55 (lv_at hl 4 rfl) ?_
      refine lv_if_ne (tgt := 64) hx hb d_R_make_57 (by decide) (fun c_57 => ?_) (fun c_57 => ?_)
      · have h := h.2 c_57
        refine lv_iconst (v := (0 : Int32)) hx hb d_R_make_64 (by decide) ?_
        have hFc := va_free (wc := RSw cI cZ b0 bR bI bC bY bZ bF bL bN bX bT mcd_43 mwd men mR_43 mI_43 mC_43 mY_43 mZ_43 mF_43 mmd_43 mhi_43 mL_43 mN_43 mfr_43 mX_43 mT_43 mct_43 mtk_43) hD hS hA [0, 1, 2, 3, 4, 5, 6, 7, 8, 9, 10] rfl
        refine va_calli (va_runV (As := [.int y3_43, .int (0 : Int32)]) (rest := [.ref b0]) ⟨hx, hb, hml, hown, hw⟩ (mR_canMake l dC dI cI cZ b0 bR bI bC bY bZ bF bL bN bX bT H.size mcd_43 mwd men mR_43 mI_43 mC_43 mY_43 mZ_43 mF_43 mmd_43 mhi_43 mL_43 mN_43 mfr_43 mX_43 mT_43 mct_43 mtk_43 y3_43 (0 : Int32) _ h) (cwV 2 hw g_R_103 rfl rfl rfl (by decide +kernel) ⟨Nat.le_of_ble_eq_true rfl, Nat.le_of_ble_eq_true rfl⟩) (rw_PV (ci := 2) (q0 := 0) hK hP hD rfl rfl) rfl rfl hl.1 rfl (lv_room (Nat.le_of_ble_eq_true rfl)) d_R_make_65 ⟨Nat.le_of_ble_eq_true rfl, Nat.le_of_ble_eq_true rfl⟩) hS (fun q _ h => hFc q h) hFc (fun r65 u t H locs ht hvm h hB hz1 hk1 hS => ?_)
        obtain ⟨mI_65, mhi_65, mN_65, mfr_65, mX_65, mT_65, mct_65, mtk_65⟩ := u
        obtain ⟨hP, hK1, hD1⟩ := hB
        rw [ht] at hP
        have hD := hD1.weaken (fun _ _ _ q => hFc _ q)
        clear hFc hD1 hK1
        try dsimp only at h
        have hP : va_P (dC, dI) vwCl (RSw cI cZ b0 bR bI bC bY bZ bF bL bN bX bT mcd_43 mwd men mR_43 mI_65 mC_43 mY_43 mZ_43 mF_43 mmd_43 mhi_65 mL_43 mN_65 mfr_65 mX_65 mT_65 mct_65 mtk_65) H := hP
        have hD : va_D A (RSw cI cZ b0 bR bI bC bY bZ bF bL bN bX bT mcd_43 mwd men mR_43 mI_65 mC_43 mY_43 mZ_43 mF_43 mmd_43 mhi_65 mL_43 mN_65 mfr_65 mX_65 mT_65 mct_65 mtk_65) := hD
        refine lv_if_ne (tgt := 75) hx hb d_R_make_68 (by decide) (fun c_68 => ?_) (fun c_68 => ?_)
        · have h := h.2 c_68
          refine lv_iconst (v := (0 : Int32)) hx hb d_R_make_75 (by decide) ?_
          refine va_put (D := (dC, dI)) (ci := 2) (v := .int (0 : Int32)) (ty := .int) (C := R_R) (T := T_R) (N := 18) hx hb hw in_R ty_R ty_R_ok nm_R hown hK hP hD hS 0 rfl rfl 0 (by decide) (hw _ wd_616) (fun _ h9 => h9) rfl (by decide +kernel) rfl rfl (Nat.le_of_ble_eq_true rfl) d_R_make_76 (fun H locs hP hD hS => ?_)
          have hP : va_P (dC, dI) vwCl (RSw cI cZ b0 bR bI bC bY bZ bF bL bN bX bT (0 : Int32) mwd men mR_43 mI_65 mC_43 mY_43 mZ_43 mF_43 mmd_43 mhi_65 mL_43 mN_65 mfr_65 mX_65 mT_65 mct_65 mtk_65) H := hP
          have hD : va_D A (RSw cI cZ b0 bR bI bC bY bZ bF bL bN bX bT (0 : Int32) mwd men mR_43 mI_65 mC_43 mY_43 mZ_43 mF_43 mmd_43 mhi_65 mL_43 mN_65 mfr_65 mX_65 mT_65 mct_65 mtk_65) := hD
          exact lp_79 y1_43 y2_43 y3_43 y4_43 y5_43 (0 : Int32) mR_43 mI_65 mC_43 mY_43 mZ_43 mF_43 mmd_43 mhi_65 mL_43 mN_65 mfr_65 mX_65 mT_65 mct_65 mtk_65 H locs ls hP hD hS (lv_sub hl [0, 1, 2, 3, 4, 5] rfl) h
        · have h := h.1 c_68
          refine lv_iconst (v := (2 : Int32)) hx hb d_R_make_71 (by decide) ?_
          refine lv_goto (tgt := 76) hx hb d_R_make_72 (by decide) ?_
          refine va_put (D := (dC, dI)) (ci := 2) (v := .int (2 : Int32)) (ty := .int) (C := R_R) (T := T_R) (N := 18) hx hb hw in_R ty_R ty_R_ok nm_R hown hK hP hD hS 0 rfl rfl 0 (by decide) (hw _ wd_616) (fun _ h9 => h9) rfl (by decide +kernel) rfl rfl (Nat.le_of_ble_eq_true rfl) d_R_make_76 (fun H locs hP hD hS => ?_)
          have hP : va_P (dC, dI) vwCl (RSw cI cZ b0 bR bI bC bY bZ bF bL bN bX bT (2 : Int32) mwd men mR_43 mI_65 mC_43 mY_43 mZ_43 mF_43 mmd_43 mhi_65 mL_43 mN_65 mfr_65 mX_65 mT_65 mct_65 mtk_65) H := hP
          have hD : va_D A (RSw cI cZ b0 bR bI bC bY bZ bF bL bN bX bT (2 : Int32) mwd men mR_43 mI_65 mC_43 mY_43 mZ_43 mF_43 mmd_43 mhi_65 mL_43 mN_65 mfr_65 mX_65 mT_65 mct_65 mtk_65) := hD
          exact lp_79 y1_43 y2_43 y3_43 y4_43 y5_43 (2 : Int32) mR_43 mI_65 mC_43 mY_43 mZ_43 mF_43 mmd_43 mhi_65 mL_43 mN_65 mfr_65 mX_65 mT_65 mct_65 mtk_65 H locs ls hP hD hS (lv_sub hl [0, 1, 2, 3, 4, 5] rfl) h
      · have h := h.1 c_57
        refine lv_iconst (v := (1 : Int32)) hx hb d_R_make_60 (by decide) ?_
        refine lv_goto (tgt := 65) hx hb d_R_make_61 (by decide) ?_
        have hFc := va_free (wc := RSw cI cZ b0 bR bI bC bY bZ bF bL bN bX bT mcd_43 mwd men mR_43 mI_43 mC_43 mY_43 mZ_43 mF_43 mmd_43 mhi_43 mL_43 mN_43 mfr_43 mX_43 mT_43 mct_43 mtk_43) hD hS hA [0, 1, 2, 3, 4, 5, 6, 7, 8, 9, 10] rfl
        refine va_calli (va_runV (As := [.int y3_43, .int (1 : Int32)]) (rest := [.ref b0]) ⟨hx, hb, hml, hown, hw⟩ (mR_canMake l dC dI cI cZ b0 bR bI bC bY bZ bF bL bN bX bT H.size mcd_43 mwd men mR_43 mI_43 mC_43 mY_43 mZ_43 mF_43 mmd_43 mhi_43 mL_43 mN_43 mfr_43 mX_43 mT_43 mct_43 mtk_43 y3_43 (1 : Int32) _ h) (cwV 2 hw g_R_103 rfl rfl rfl (by decide +kernel) ⟨Nat.le_of_ble_eq_true rfl, Nat.le_of_ble_eq_true rfl⟩) (rw_PV (ci := 2) (q0 := 0) hK hP hD rfl rfl) rfl rfl hl.1 rfl (lv_room (Nat.le_of_ble_eq_true rfl)) d_R_make_65 ⟨Nat.le_of_ble_eq_true rfl, Nat.le_of_ble_eq_true rfl⟩) hS (fun q _ h => hFc q h) hFc (fun r65 u t H locs ht hvm h hB hz1 hk1 hS => ?_)
        obtain ⟨mI_65, mhi_65, mN_65, mfr_65, mX_65, mT_65, mct_65, mtk_65⟩ := u
        obtain ⟨hP, hK1, hD1⟩ := hB
        rw [ht] at hP
        have hD := hD1.weaken (fun _ _ _ q => hFc _ q)
        clear hFc hD1 hK1
        try dsimp only at h
        have hP : va_P (dC, dI) vwCl (RSw cI cZ b0 bR bI bC bY bZ bF bL bN bX bT mcd_43 mwd men mR_43 mI_65 mC_43 mY_43 mZ_43 mF_43 mmd_43 mhi_65 mL_43 mN_65 mfr_65 mX_65 mT_65 mct_65 mtk_65) H := hP
        have hD : va_D A (RSw cI cZ b0 bR bI bC bY bZ bF bL bN bX bT mcd_43 mwd men mR_43 mI_65 mC_43 mY_43 mZ_43 mF_43 mmd_43 mhi_65 mL_43 mN_65 mfr_65 mX_65 mT_65 mct_65 mtk_65) := hD
        refine lv_if_ne (tgt := 75) hx hb d_R_make_68 (by decide) (fun c_68 => ?_) (fun c_68 => ?_)
        · have h := h.2 c_68
          refine lv_iconst (v := (0 : Int32)) hx hb d_R_make_75 (by decide) ?_
          refine va_put (D := (dC, dI)) (ci := 2) (v := .int (0 : Int32)) (ty := .int) (C := R_R) (T := T_R) (N := 18) hx hb hw in_R ty_R ty_R_ok nm_R hown hK hP hD hS 0 rfl rfl 0 (by decide) (hw _ wd_616) (fun _ h9 => h9) rfl (by decide +kernel) rfl rfl (Nat.le_of_ble_eq_true rfl) d_R_make_76 (fun H locs hP hD hS => ?_)
          have hP : va_P (dC, dI) vwCl (RSw cI cZ b0 bR bI bC bY bZ bF bL bN bX bT (0 : Int32) mwd men mR_43 mI_65 mC_43 mY_43 mZ_43 mF_43 mmd_43 mhi_65 mL_43 mN_65 mfr_65 mX_65 mT_65 mct_65 mtk_65) H := hP
          have hD : va_D A (RSw cI cZ b0 bR bI bC bY bZ bF bL bN bX bT (0 : Int32) mwd men mR_43 mI_65 mC_43 mY_43 mZ_43 mF_43 mmd_43 mhi_65 mL_43 mN_65 mfr_65 mX_65 mT_65 mct_65 mtk_65) := hD
          exact lp_79 y1_43 y2_43 y3_43 y4_43 y5_43 (0 : Int32) mR_43 mI_65 mC_43 mY_43 mZ_43 mF_43 mmd_43 mhi_65 mL_43 mN_65 mfr_65 mX_65 mT_65 mct_65 mtk_65 H locs ls hP hD hS (lv_sub hl [0, 1, 2, 3, 4, 5] rfl) h
        · have h := h.1 c_68
          refine lv_iconst (v := (2 : Int32)) hx hb d_R_make_71 (by decide) ?_
          refine lv_goto (tgt := 76) hx hb d_R_make_72 (by decide) ?_
          refine va_put (D := (dC, dI)) (ci := 2) (v := .int (2 : Int32)) (ty := .int) (C := R_R) (T := T_R) (N := 18) hx hb hw in_R ty_R ty_R_ok nm_R hown hK hP hD hS 0 rfl rfl 0 (by decide) (hw _ wd_616) (fun _ h9 => h9) rfl (by decide +kernel) rfl rfl (Nat.le_of_ble_eq_true rfl) d_R_make_76 (fun H locs hP hD hS => ?_)
          have hP : va_P (dC, dI) vwCl (RSw cI cZ b0 bR bI bC bY bZ bF bL bN bX bT (2 : Int32) mwd men mR_43 mI_65 mC_43 mY_43 mZ_43 mF_43 mmd_43 mhi_65 mL_43 mN_65 mfr_65 mX_65 mT_65 mct_65 mtk_65) H := hP
          have hD : va_D A (RSw cI cZ b0 bR bI bC bY bZ bF bL bN bX bT (2 : Int32) mwd men mR_43 mI_65 mC_43 mY_43 mZ_43 mF_43 mmd_43 mhi_65 mL_43 mN_65 mfr_65 mX_65 mT_65 mct_65 mtk_65) := hD
          exact lp_79 y1_43 y2_43 y3_43 y4_43 y5_43 (2 : Int32) mR_43 mI_65 mC_43 mY_43 mZ_43 mF_43 mmd_43 mhi_65 mL_43 mN_65 mfr_65 mX_65 mT_65 mct_65 mtk_65 H locs ls hP hD hS (lv_sub hl [0, 1, 2, 3, 4, 5] rfl) h
    · have h := h.1 c_46
      refine lv_iconst (v := (1 : Int32)) hx hb d_R_make_49 (by decide) ?_
      refine lv_goto (tgt := 76) hx hb d_R_make_50 (by decide) ?_
      refine va_put (D := (dC, dI)) (ci := 2) (v := .int (1 : Int32)) (ty := .int) (C := R_R) (T := T_R) (N := 18) hx hb hw in_R ty_R ty_R_ok nm_R hown hK hP hD hS 0 rfl rfl 0 (by decide) (hw _ wd_616) (fun _ h9 => h9) rfl (by decide +kernel) rfl rfl (Nat.le_of_ble_eq_true rfl) d_R_make_76 (fun H locs hP hD hS => ?_)
      have hP : va_P (dC, dI) vwCl (RSw cI cZ b0 bR bI bC bY bZ bF bL bN bX bT (1 : Int32) mwd men mR_43 mI_43 mC_43 mY_43 mZ_43 mF_43 mmd_43 mhi_43 mL_43 mN_43 mfr_43 mX_43 mT_43 mct_43 mtk_43) H := hP
      have hD : va_D A (RSw cI cZ b0 bR bI bC bY bZ bF bL bN bX bT (1 : Int32) mwd men mR_43 mI_43 mC_43 mY_43 mZ_43 mF_43 mmd_43 mhi_43 mL_43 mN_43 mfr_43 mX_43 mT_43 mct_43 mtk_43) := hD
      exact lp_79 y1_43 y2_43 y3_43 y4_43 y5_43 (1 : Int32) mR_43 mI_43 mC_43 mY_43 mZ_43 mF_43 mmd_43 mhi_43 mL_43 mN_43 mfr_43 mX_43 mT_43 mct_43 mtk_43 H locs ls hP hD hS (lv_sub hl [0, 1, 2, 3, 4, 5] rfl) h
  have lp_40 : ∀ (y1_40 : Int32) (y2_40 : Int32) (y3_40 : Int32) (y4_40 : Int32) (mcd_40 : Int32) (mR_40 : Nat → Int32) (mI_40 : Nat → Int32) (mC_40 : Nat → Int32) (mY_40 : Nat → Int32) (mZ_40 : Nat → Int32) (mF_40 : Nat → Int32) (mmd_40 : Int32) (mhi_40 : Int32) (mL_40 : Nat → Int32) (mN_40 : Nat → Int32) (mfr_40 : Int32) (mX_40 : Nat → Int32) (mT_40 : Nat → Int32) (mct_40 : Int32) (mtk_40 : Int32) (H : Heap) (locs : List Loc) (ls : Array Slot), va_P (dC, dI) vwCl (RSw cI cZ b0 bR bI bC bY bZ bF bL bN bX bT mcd_40 mwd men mR_40 mI_40 mC_40 mY_40 mZ_40 mF_40 mmd_40 mhi_40 mL_40 mN_40 mfr_40 mX_40 mT_40 mct_40 mtk_40) H → va_D A (RSw cI cZ b0 bR bI bC bY bZ bF bL bN bX bT mcd_40 mwd men mR_40 mI_40 mC_40 mY_40 mZ_40 mF_40 mmd_40 mhi_40 mL_40 mN_40 mfr_40 mX_40 mT_40 mct_40 mtk_40) → va_S A s.heap H locs → lv_has ls 7 [(0, .ref b0), (1, .int y1_40), (2, .int y2_40), (3, .int y3_40), (4, .int y4_40)] → wqR_make_40 mwd men y1_40 y2_40 y3_40 y4_40 mcd_40 mR_40 mI_40 mC_40 mY_40 mZ_40 mF_40 mmd_40 mhi_40 mL_40 mN_40 mfr_40 mX_40 mT_40 mct_40 mtk_40 post → W p l e (headSpec ws_R_make ({ frames := 5, cells := 0, slots := 0, locals := 108 })).room s m ([.ref b0, .int a1, .int a2, .int a3, .int a4] : List Value).toArray below meth c H locs (0) (0) (MQ below (va_Qi (fun (r : Int32) (u : Int32 × (Nat → Int32) × (Nat → Int32) × (Nat → Int32) × (Nat → Int32) × (Nat → Int32) × (Nat → Int32) × Int32 × Int32 × (Nat → Int32) × (Nat → Int32) × Int32 × (Nat → Int32) × (Nat → Int32) × Int32 × Int32) => post r u.1 u.2.1 u.2.2.1 u.2.2.2.1 u.2.2.2.2.1 u.2.2.2.2.2.1 u.2.2.2.2.2.2.1 u.2.2.2.2.2.2.2.1 u.2.2.2.2.2.2.2.2.1 u.2.2.2.2.2.2.2.2.2.1 u.2.2.2.2.2.2.2.2.2.2.1 u.2.2.2.2.2.2.2.2.2.2.2.1 u.2.2.2.2.2.2.2.2.2.2.2.2.1 u.2.2.2.2.2.2.2.2.2.2.2.2.2.1 u.2.2.2.2.2.2.2.2.2.2.2.2.2.2.1 u.2.2.2.2.2.2.2.2.2.2.2.2.2.2.2) (rw_B (dC, dI) vwCl [(cI, .int), (cZ, .boolean)] A (fun u : Int32 × (Nat → Int32) × (Nat → Int32) × (Nat → Int32) × (Nat → Int32) × (Nat → Int32) × (Nat → Int32) × Int32 × Int32 × (Nat → Int32) × (Nat → Int32) × Int32 × (Nat → Int32) × (Nat → Int32) × Int32 × Int32 => RSw cI cZ b0 bR bI bC bY bZ bF bL bN bX bT u.1 mwd men u.2.1 u.2.2.1 u.2.2.2.1 u.2.2.2.2.1 u.2.2.2.2.2.1 u.2.2.2.2.2.2.1 u.2.2.2.2.2.2.2.1 u.2.2.2.2.2.2.2.2.1 u.2.2.2.2.2.2.2.2.2.1 u.2.2.2.2.2.2.2.2.2.2.1 u.2.2.2.2.2.2.2.2.2.2.2.1 u.2.2.2.2.2.2.2.2.2.2.2.2.1 u.2.2.2.2.2.2.2.2.2.2.2.2.2.1 u.2.2.2.2.2.2.2.2.2.2.2.2.2.2.1 u.2.2.2.2.2.2.2.2.2.2.2.2.2.2.2)) A) ([.ref b0, .int a1, .int a2, .int a3, .int a4] : List Value).toArray s 0 0 A) (F0 m 40 ls []) := by
    intro y1_40 y2_40 y3_40 y4_40 mcd_40 mR_40 mI_40 mC_40 mY_40 mZ_40 mF_40 mmd_40 mhi_40 mL_40 mN_40 mfr_40 mX_40 mT_40 mct_40 mtk_40 H locs ls hP hD hS hl h
    unfold wqR_make_40 at h
    refine lv_iconst (v := (0 : Int32)) hx hb d_R_make_40 (by decide) ?_
    refine lv_istore (lv' := [(5, .int (0 : Int32)), (0, .ref b0), (1, .int y1_40), (2, .int y2_40), (3, .int y3_40), (4, .int y4_40)]) hx hb d_R_make_41 hl (by decide) rfl (fun ls hl => ?_)
    exact lp_43 y1_40 y2_40 y3_40 y4_40 (0 : Int32) mcd_40 mR_40 mI_40 mC_40 mY_40 mZ_40 mF_40 mmd_40 mhi_40 mL_40 mN_40 mfr_40 mX_40 mT_40 mct_40 mtk_40 H locs ls hP hD hS (lv_sub hl [1, 2, 3, 4, 5, 0] rfl) h
  have lp_36 : ∀ (y1_36 : Int32) (y2_36 : Int32) (y3_36 : Int32) (y4_36 : Int32) (mcd_36 : Int32) (mR_36 : Nat → Int32) (mI_36 : Nat → Int32) (mC_36 : Nat → Int32) (mY_36 : Nat → Int32) (mZ_36 : Nat → Int32) (mF_36 : Nat → Int32) (mmd_36 : Int32) (mhi_36 : Int32) (mL_36 : Nat → Int32) (mN_36 : Nat → Int32) (mfr_36 : Int32) (mX_36 : Nat → Int32) (mT_36 : Nat → Int32) (mct_36 : Int32) (mtk_36 : Int32) (H : Heap) (locs : List Loc) (ls : Array Slot), va_P (dC, dI) vwCl (RSw cI cZ b0 bR bI bC bY bZ bF bL bN bX bT mcd_36 mwd men mR_36 mI_36 mC_36 mY_36 mZ_36 mF_36 mmd_36 mhi_36 mL_36 mN_36 mfr_36 mX_36 mT_36 mct_36 mtk_36) H → va_D A (RSw cI cZ b0 bR bI bC bY bZ bF bL bN bX bT mcd_36 mwd men mR_36 mI_36 mC_36 mY_36 mZ_36 mF_36 mmd_36 mhi_36 mL_36 mN_36 mfr_36 mX_36 mT_36 mct_36 mtk_36) → va_S A s.heap H locs → lv_has ls 7 [(0, .ref b0), (1, .int y1_36), (2, .int y2_36), (3, .int y3_36), (4, .int y4_36)] → wqR_make_36 mwd men y1_36 y2_36 y3_36 y4_36 mcd_36 mR_36 mI_36 mC_36 mY_36 mZ_36 mF_36 mmd_36 mhi_36 mL_36 mN_36 mfr_36 mX_36 mT_36 mct_36 mtk_36 post → W p l e (headSpec ws_R_make ({ frames := 5, cells := 0, slots := 0, locals := 108 })).room s m ([.ref b0, .int a1, .int a2, .int a3, .int a4] : List Value).toArray below meth c H locs (0) (0) (MQ below (va_Qi (fun (r : Int32) (u : Int32 × (Nat → Int32) × (Nat → Int32) × (Nat → Int32) × (Nat → Int32) × (Nat → Int32) × (Nat → Int32) × Int32 × Int32 × (Nat → Int32) × (Nat → Int32) × Int32 × (Nat → Int32) × (Nat → Int32) × Int32 × Int32) => post r u.1 u.2.1 u.2.2.1 u.2.2.2.1 u.2.2.2.2.1 u.2.2.2.2.2.1 u.2.2.2.2.2.2.1 u.2.2.2.2.2.2.2.1 u.2.2.2.2.2.2.2.2.1 u.2.2.2.2.2.2.2.2.2.1 u.2.2.2.2.2.2.2.2.2.2.1 u.2.2.2.2.2.2.2.2.2.2.2.1 u.2.2.2.2.2.2.2.2.2.2.2.2.1 u.2.2.2.2.2.2.2.2.2.2.2.2.2.1 u.2.2.2.2.2.2.2.2.2.2.2.2.2.2.1 u.2.2.2.2.2.2.2.2.2.2.2.2.2.2.2) (rw_B (dC, dI) vwCl [(cI, .int), (cZ, .boolean)] A (fun u : Int32 × (Nat → Int32) × (Nat → Int32) × (Nat → Int32) × (Nat → Int32) × (Nat → Int32) × (Nat → Int32) × Int32 × Int32 × (Nat → Int32) × (Nat → Int32) × Int32 × (Nat → Int32) × (Nat → Int32) × Int32 × Int32 => RSw cI cZ b0 bR bI bC bY bZ bF bL bN bX bT u.1 mwd men u.2.1 u.2.2.1 u.2.2.2.1 u.2.2.2.2.1 u.2.2.2.2.2.1 u.2.2.2.2.2.2.1 u.2.2.2.2.2.2.2.1 u.2.2.2.2.2.2.2.2.1 u.2.2.2.2.2.2.2.2.2.1 u.2.2.2.2.2.2.2.2.2.2.1 u.2.2.2.2.2.2.2.2.2.2.2.1 u.2.2.2.2.2.2.2.2.2.2.2.2.1 u.2.2.2.2.2.2.2.2.2.2.2.2.2.1 u.2.2.2.2.2.2.2.2.2.2.2.2.2.2.1 u.2.2.2.2.2.2.2.2.2.2.2.2.2.2.2)) A) ([.ref b0, .int a1, .int a2, .int a3, .int a4] : List Value).toArray s 0 0 A) (F0 m 36 ls []) := by
    intro y1_36 y2_36 y3_36 y4_36 mcd_36 mR_36 mI_36 mC_36 mY_36 mZ_36 mF_36 mmd_36 mhi_36 mL_36 mN_36 mfr_36 mX_36 mT_36 mct_36 mtk_36 H locs ls hP hD hS hl h
    unfold wqR_make_36 at h
    refine lv_iconst (v := (1 : Int32)) hx hb d_R_make_36 (by decide) ?_
    refine lv_goto (tgt := 41) hx hb d_R_make_37 (by decide) ?_
    refine lv_istore (lv' := [(5, .int (1 : Int32)), (0, .ref b0), (1, .int y1_36), (2, .int y2_36), (3, .int y3_36), (4, .int y4_36)]) hx hb d_R_make_41 hl (by decide) rfl (fun ls hl => ?_)
    exact lp_43 y1_36 y2_36 y3_36 y4_36 (1 : Int32) mcd_36 mR_36 mI_36 mC_36 mY_36 mZ_36 mF_36 mmd_36 mhi_36 mL_36 mN_36 mfr_36 mX_36 mT_36 mct_36 mtk_36 H locs ls hP hD hS (lv_sub hl [1, 2, 3, 4, 5, 0] rfl) h
  unfold wqR_make at h
  refine lv_iload_n hx hb d_R_make_0 rfl (lv_at hl 1 rfl) ?_
  refine rq_calli (W.runS (As := [.int a1]) (rest := []) ⟨hx, hb, hml, hown, hw⟩ (mR_isRegister l a1 _ h) (va_cwS 1 hw g_R_52 rfl rfl rfl (by decide +kernel) ⟨Nat.le_of_ble_eq_true rfl, Nat.le_of_ble_eq_true rfl⟩) preEq rfl rfl hl.1 rfl (lv_room (Nat.le_of_ble_eq_true rfl)) d_R_make_1 ⟨Nat.le_of_ble_eq_true rfl, Nat.le_of_ble_eq_true rfl⟩) (fun r1 h => ?_)
  refine lv_if_eq (tgt := 40) hx hb d_R_make_4 (by decide) (fun c_4 => ?_) (fun c_4 => ?_)
  · have h := h.1 c_4
    exact lp_40 a1 a2 a3 a4 mcd mR mI mC mY mZ mF mmd mhi mL mN mfr mX mT mct mtk s.heap [] ls hP hD hS (lv_sub hl [0, 1, 2, 3, 4] rfl) h
  · have h := h.2 c_4
    refine lv_iload_n hx hb d_R_make_7 rfl (lv_at hl 2 rfl) ?_
    refine rq_calli (W.runS (As := [.int a2]) (rest := []) ⟨hx, hb, hml, hown, hw⟩ (mR_isRegister l a2 _ h) (va_cwS 1 hw g_R_52 rfl rfl rfl (by decide +kernel) ⟨Nat.le_of_ble_eq_true rfl, Nat.le_of_ble_eq_true rfl⟩) preEq rfl rfl hl.1 rfl (lv_room (Nat.le_of_ble_eq_true rfl)) d_R_make_8 ⟨Nat.le_of_ble_eq_true rfl, Nat.le_of_ble_eq_true rfl⟩) (fun r8 h => ?_)
    refine lv_if_eq (tgt := 40) hx hb d_R_make_11 (by decide) (fun c_11 => ?_) (fun c_11 => ?_)
    · have h := h.1 c_11
      exact lp_40 a1 a2 a3 a4 mcd mR mI mC mY mZ mF mmd mhi mL mN mfr mX mT mct mtk s.heap [] ls hP hD hS (lv_sub hl [0, 1, 2, 3, 4] rfl) h
    · have h := h.2 c_11
      refine lv_iload_n hx hb d_R_make_14 rfl (lv_at hl 3 rfl) ?_
      refine lv_if_lt (tgt := 40) hx hb d_R_make_15 (by decide) (fun c_15 => ?_) (fun c_15 => ?_)
      · have h := h.1 c_15
        exact lp_40 a1 a2 a3 a4 mcd mR mI mC mY mZ mF mmd mhi mL mN mfr mX mT mct mtk s.heap [] ls hP hD hS (lv_sub hl [0, 1, 2, 3, 4] rfl) h
      · have h := h.2 c_15
        refine lv_iload_n hx hb d_R_make_18 rfl (lv_at hl 3 rfl) ?_
        refine lv_iload hx hb d_R_make_19 (lv_at hl 4 rfl) ?_
        refine lv_if_eq (tgt := 30) hx hb d_R_make_21 (by decide) (fun c_21 => ?_) (fun c_21 => ?_)
        · have h := h.1 c_21
          refine lv_sipush (v := (16000 : Int32)) hx hb d_R_make_30 (by decide) ?_
          refine lv_icmp_gt (tgt := 40) hx hb d_R_make_33 (by decide) (fun c_33 => ?_) (fun c_33 => ?_)
          · have h := h.1 c_33
            exact lp_40 a1 a2 a3 a4 mcd mR mI mC mY mZ mF mmd mhi mL mN mfr mX mT mct mtk s.heap [] ls hP hD hS (lv_sub hl [0, 1, 2, 3, 4] rfl) h
          · have h := h.2 c_33
            exact lp_36 a1 a2 a3 a4 mcd mR mI mC mY mZ mF mmd mhi mL mN mfr mX mT mct mtk s.heap [] ls hP hD hS (lv_sub hl [0, 1, 2, 3, 4] rfl) h
        · have h := h.2 c_21
          refine lv_sipush (v := (4000 : Int32)) hx hb d_R_make_24 (by decide) ?_
          refine lv_goto (tgt := 33) hx hb d_R_make_27 (by decide) ?_
          refine lv_icmp_gt (tgt := 40) hx hb d_R_make_33 (by decide) (fun c_33 => ?_) (fun c_33 => ?_)
          · have h := h.1 c_33
            exact lp_40 a1 a2 a3 a4 mcd mR mI mC mY mZ mF mmd mhi mL mN mfr mX mT mct mtk s.heap [] ls hP hD hS (lv_sub hl [0, 1, 2, 3, 4] rfl) h
          · have h := h.2 c_33
            exact lp_36 a1 a2 a3 a4 mcd mR mI mC mY mZ mF mmd mhi mL mN mfr mX mT mct mtk s.heap [] ls hP hD hS (lv_sub hl [0, 1, 2, 3, 4] rfl) h
def wqR_copy_120 (mwd : Int32) (men : Int32) (y1_120 : Int32) (y2_120 : Int32) (y3_120 : Int32) (y4_120 : Int32) (y5_120 : Int32) (mcdf_120 : Int32) (mRf_120 : Nat → Int32) (mIf_120 : Nat → Int32) (mCf_120 : Nat → Int32) (mYf_120 : Nat → Int32) (mZf_120 : Nat → Int32) (mFf_120 : Nat → Int32) (mmdf_120 : Int32) (mhif_120 : Int32) (mNf_120 : Nat → Int32) (mfrf_120 : Int32) (mXf_120 : Nat → Int32) (mTf_120 : Nat → Int32) (mctf_120 : Int32) (mtkf_120 : Int32) (post : Int32 → Int32 → (Nat → Int32) → (Nat → Int32) → (Nat → Int32) → (Nat → Int32) → (Nat → Int32) → (Nat → Int32) → Int32 → Int32 → (Nat → Int32) → (Nat → Int32) → Int32 → (Nat → Int32) → (Nat → Int32) → Int32 → Int32 → Prop) (kx : Int32 → Int32 → (Nat → Int32) → Prop) : Nat → Int32 → Int32 → (Nat → Int32) → Prop
  | 0, _, _, _ => False
  | n + 1, x6_120, x7_120, mL_120 =>
    (x7_120 < 0 → (kx x6_120 x7_120 mL_120)) ∧ (¬ (x7_120 < 0) → (vp_in x7_120 65536 ∧ (vp_in x6_120 65536 ∧ (vp_in x6_120 65536 ∧ (vp_in x7_120 65536 ∧ (wqR_copy_120 mwd men y1_120 y2_120 y3_120 y4_120 y5_120 mcdf_120 mRf_120 mIf_120 mCf_120 mYf_120 mZf_120 mFf_120 mmdf_120 mhif_120 mNf_120 mfrf_120 mXf_120 mTf_120 mctf_120 mtkf_120 post kx n (mNf_120 x6_120.toNatClampNeg) (mNf_120 x7_120.toNatClampNeg) (upd mL_120 x6_120.toNatClampNeg (mL_120 x7_120.toNatClampNeg))))))))
def wqR_copy_55 (mwd : Int32) (men : Int32) (y1_55 : Int32) (y2_55 : Int32) (y3_55 : Int32) (mcd_55 : Int32) (mR_55 : Nat → Int32) (mI_55 : Nat → Int32) (mC_55 : Nat → Int32) (mY_55 : Nat → Int32) (mZ_55 : Nat → Int32) (mF_55 : Nat → Int32) (mmd_55 : Int32) (mhi_55 : Int32) (mL_55 : Nat → Int32) (mN_55 : Nat → Int32) (mfr_55 : Int32) (mX_55 : Nat → Int32) (mT_55 : Nat → Int32) (mct_55 : Int32) (mtk_55 : Int32) (post : Int32 → Int32 → (Nat → Int32) → (Nat → Int32) → (Nat → Int32) → (Nat → Int32) → (Nat → Int32) → (Nat → Int32) → Int32 → Int32 → (Nat → Int32) → (Nat → Int32) → Int32 → (Nat → Int32) → (Nat → Int32) → Int32 → Int32 → Prop) : Prop :=
  (mcd_55 ≤ 0 → (vp_in y2_55 32 ∧ (wqR_placeOf (mR_55 y2_55.toNatClampNeg) (fun r70 => vp_in r70 8192 ∧ (vp_in r70 8192 ∧ (vp_in r70 8192 ∧ (wqR_add mI_55 mC_55 mY_55 mZ_55 mF_55 mmd_55 mhi_55 mL_55 mN_55 mfr_55 (mC_55 r70.toNatClampNeg) (mZ_55 r70.toNatClampNeg) (mY_55 r70.toNatClampNeg) (fun r97 mI_97 mC_97 mY_97 mZ_97 mF_97 mmd_97 mhi_97 mL_97 mN_97 mfr_97 => vp_in r97 8192 ∧ (vp_in r70 8192 ∧ (∃ k_120, wqR_copy_120 mwd men y1_55 y2_55 y3_55 r70 r97 mcd_55 mR_55 mI_97 mC_97 mY_97 mZ_97 mF_97 mmd_97 mhi_97 mN_97 mfr_97 mX_55 mT_55 mct_55 mtk_55 post (fun z6_120 z7_120 mLe_120 => wqR_valueOf r97 (fun r167 => vp_in y1_55 32 ∧ (post mmd_97 mcd_55 (upd mR_55 y1_55.toNatClampNeg r167) mI_97 mC_97 mY_97 mZ_97 mF_97 mmd_97 mhi_97 mLe_120 mN_97 mfr_97 mX_55 mT_55 mct_55 mtk_55))) k_120 (mF_97 r97.toNatClampNeg) (mF_97 r70.toNatClampNeg) mL_97)))))))))) ∧ (¬ (mcd_55 ≤ 0) → (post (0 : Int32) mcd_55 mR_55 mI_55 mC_55 mY_55 mZ_55 mF_55 mmd_55 mhi_55 mL_55 mN_55 mfr_55 mX_55 mT_55 mct_55 mtk_55))
def wqR_copy_21 (mwd : Int32) (men : Int32) (y1_21 : Int32) (y2_21 : Int32) (y3_21 : Int32) (mcd_21 : Int32) (mR_21 : Nat → Int32) (mI_21 : Nat → Int32) (mC_21 : Nat → Int32) (mY_21 : Nat → Int32) (mZ_21 : Nat → Int32) (mF_21 : Nat → Int32) (mmd_21 : Int32) (mhi_21 : Int32) (mL_21 : Nat → Int32) (mN_21 : Nat → Int32) (mfr_21 : Int32) (mX_21 : Nat → Int32) (mT_21 : Nat → Int32) (mct_21 : Int32) (mtk_21 : Int32) (post : Int32 → Int32 → (Nat → Int32) → (Nat → Int32) → (Nat → Int32) → (Nat → Int32) → (Nat → Int32) → (Nat → Int32) → Int32 → Int32 → (Nat → Int32) → (Nat → Int32) → Int32 → (Nat → Int32) → (Nat → Int32) → Int32 → Int32 → Prop) : Prop :=
  (y3_21 = 0 → (wqR_copy_55 mwd men y1_21 y2_21 y3_21 (1 : Int32) mR_21 mI_21 mC_21 mY_21 mZ_21 mF_21 mmd_21 mhi_21 mL_21 mN_21 mfr_21 mX_21 mT_21 mct_21 mtk_21 post)) ∧ (¬ (y3_21 = 0) → (wqR_sizeOf mR_21 mZ_21 y2_21 (fun r33 => wqR_hasBytes mR_21 mY_21 y2_21 (fun r38 => wqR_canMake mwd men mR_21 mI_21 mC_21 mY_21 mZ_21 mF_21 mhi_21 mL_21 mN_21 mfr_21 mX_21 mT_21 mct_21 mtk_21 r33 r38 (fun r41 mI_41 mhi_41 mN_41 mfr_41 mX_41 mT_41 mct_41 mtk_41 => (r41 = 0 → (wqR_copy_55 mwd men y1_21 y2_21 y3_21 (2 : Int32) mR_21 mI_41 mC_21 mY_21 mZ_21 mF_21 mmd_21 mhi_41 mL_21 mN_41 mfr_41 mX_41 mT_41 mct_41 mtk_41 post)) ∧ (¬ (r41 = 0) → (wqR_copy_55 mwd men y1_21 y2_21 y3_21 (0 : Int32) mR_21 mI_41 mC_21 mY_21 mZ_21 mF_21 mmd_21 mhi_41 mL_21 mN_41 mfr_41 mX_41 mT_41 mct_41 mtk_41 post)))))))
def wqR_copy_19 (mwd : Int32) (men : Int32) (y1_19 : Int32) (y2_19 : Int32) (mcd_19 : Int32) (mR_19 : Nat → Int32) (mI_19 : Nat → Int32) (mC_19 : Nat → Int32) (mY_19 : Nat → Int32) (mZ_19 : Nat → Int32) (mF_19 : Nat → Int32) (mmd_19 : Int32) (mhi_19 : Int32) (mL_19 : Nat → Int32) (mN_19 : Nat → Int32) (mfr_19 : Int32) (mX_19 : Nat → Int32) (mT_19 : Nat → Int32) (mct_19 : Int32) (mtk_19 : Int32) (post : Int32 → Int32 → (Nat → Int32) → (Nat → Int32) → (Nat → Int32) → (Nat → Int32) → (Nat → Int32) → (Nat → Int32) → Int32 → Int32 → (Nat → Int32) → (Nat → Int32) → Int32 → (Nat → Int32) → (Nat → Int32) → Int32 → Int32 → Prop) : Prop :=
  wqR_copy_21 mwd men y1_19 y2_19 (0 : Int32) mcd_19 mR_19 mI_19 mC_19 mY_19 mZ_19 mF_19 mmd_19 mhi_19 mL_19 mN_19 mfr_19 mX_19 mT_19 mct_19 mtk_19 post
def wqR_copy (mcd : Int32) (mwd : Int32) (men : Int32) (mR : Nat → Int32) (mI : Nat → Int32) (mC : Nat → Int32) (mY : Nat → Int32) (mZ : Nat → Int32) (mF : Nat → Int32) (mmd : Int32) (mhi : Int32) (mL : Nat → Int32) (mN : Nat → Int32) (mfr : Int32) (mX : Nat → Int32) (mT : Nat → Int32) (mct : Int32) (mtk : Int32) (a1 : Int32) (a2 : Int32) (post : Int32 → Int32 → (Nat → Int32) → (Nat → Int32) → (Nat → Int32) → (Nat → Int32) → (Nat → Int32) → (Nat → Int32) → Int32 → Int32 → (Nat → Int32) → (Nat → Int32) → Int32 → (Nat → Int32) → (Nat → Int32) → Int32 → Int32 → Prop) : Prop :=
  wqR_isRegister a1 (fun r1 => (r1 = 0 → (wqR_copy_19 mwd men a1 a2 mcd mR mI mC mY mZ mF mmd mhi mL mN mfr mX mT mct mtk post)) ∧ (¬ (r1 = 0) → (wqR_has mR a2 (fun r9 => (r9 = 0 → (wqR_copy_19 mwd men a1 a2 mcd mR mI mC mY mZ mF mmd mhi mL mN mfr mX mT mct mtk post)) ∧ (¬ (r9 = 0) → (wqR_copy_21 mwd men a1 a2 (1 : Int32) mcd mR mI mC mY mZ mF mmd mhi mL mN mfr mX mT mct mtk post))))))
set_option maxHeartbeats 4000000 in
set_option maxRecDepth 100000 in
theorem mR_copy (l : Launch) (dC : Nat → ClassId) (dI : Nat → Nat → Nat) (cI : ClassId) (cZ : ClassId) (b0 : Nat) (bR : Nat) (bI : Nat) (bC : Nat) (bY : Nat) (bZ : Nat) (bF : Nat) (bL : Nat) (bN : Nat) (bX : Nat) (bT : Nat) (sz : Nat) (mcd : Int32) (mwd : Int32) (men : Int32) (mR : Nat → Int32) (mI : Nat → Int32) (mC : Nat → Int32) (mY : Nat → Int32) (mZ : Nat → Int32) (mF : Nat → Int32) (mmd : Int32) (mhi : Int32) (mL : Nat → Int32) (mN : Nat → Int32) (mfr : Int32) (mX : Nat → Int32) (mT : Nat → Int32) (mct : Int32) (mtk : Int32) (a1 : Int32) (a2 : Int32) (post : Int32 → Int32 → (Nat → Int32) → (Nat → Int32) → (Nat → Int32) → (Nat → Int32) → (Nat → Int32) → (Nat → Int32) → Int32 → Int32 → (Nat → Int32) → (Nat → Int32) → Int32 → (Nat → Int32) → (Nat → Int32) → Int32 → Int32 → Prop) (h : wqR_copy mcd mwd men mR mI mC mY mZ mF mmd mhi mL mN mfr mX mT mct mtk a1 a2 post) : Met l y_R_copy ws_R_copy ({ frames := 5, cells := 0, slots := 0, locals := 108 }) (rw_P (dC, dI) vwCl (RSw cI cZ b0 bR bI bC bY bZ bF bL bN bX bT mcd mwd men mR mI mC mY mZ mF mmd mhi mL mN mfr mX mT mct mtk) [(cI, .int), (cZ, .boolean)] sz [.ref b0, .int a1, .int a2]) (va_Qi (fun (r : Int32) (u : Int32 × (Nat → Int32) × (Nat → Int32) × (Nat → Int32) × (Nat → Int32) × (Nat → Int32) × (Nat → Int32) × Int32 × Int32 × (Nat → Int32) × (Nat → Int32) × Int32 × (Nat → Int32) × (Nat → Int32) × Int32 × Int32) => post r u.1 u.2.1 u.2.2.1 u.2.2.2.1 u.2.2.2.2.1 u.2.2.2.2.2.1 u.2.2.2.2.2.2.1 u.2.2.2.2.2.2.2.1 u.2.2.2.2.2.2.2.2.1 u.2.2.2.2.2.2.2.2.2.1 u.2.2.2.2.2.2.2.2.2.2.1 u.2.2.2.2.2.2.2.2.2.2.2.1 u.2.2.2.2.2.2.2.2.2.2.2.2.1 u.2.2.2.2.2.2.2.2.2.2.2.2.2.1 u.2.2.2.2.2.2.2.2.2.2.2.2.2.2.1 u.2.2.2.2.2.2.2.2.2.2.2.2.2.2.2) (rw_B (dC, dI) vwCl [(cI, .int), (cZ, .boolean)] (va_A (RSw cI cZ b0 bR bI bC bY bZ bF bL bN bX bT mcd mwd men mR mI mC mY mZ mF mmd mhi mL mN mfr mX mT mct mtk) sz) (fun u : Int32 × (Nat → Int32) × (Nat → Int32) × (Nat → Int32) × (Nat → Int32) × (Nat → Int32) × (Nat → Int32) × Int32 × Int32 × (Nat → Int32) × (Nat → Int32) × Int32 × (Nat → Int32) × (Nat → Int32) × Int32 × Int32 => RSw cI cZ b0 bR bI bC bY bZ bF bL bN bX bT u.1 mwd men u.2.1 u.2.2.1 u.2.2.2.1 u.2.2.2.2.1 u.2.2.2.2.2.1 u.2.2.2.2.2.2.1 u.2.2.2.2.2.2.2.1 u.2.2.2.2.2.2.2.2.1 u.2.2.2.2.2.2.2.2.2.1 u.2.2.2.2.2.2.2.2.2.2.1 u.2.2.2.2.2.2.2.2.2.2.2.1 u.2.2.2.2.2.2.2.2.2.2.2.2.1 u.2.2.2.2.2.2.2.2.2.2.2.2.2.1 u.2.2.2.2.2.2.2.2.2.2.2.2.2.2.1 u.2.2.2.2.2.2.2.2.2.2.2.2.2.2.2)) (va_A (RSw cI cZ b0 bR bI bC bY bZ bF bL bN bX bT mcd mwd men mR mI mC mY mZ mF mmd mhi mL mN mfr mX mT mct mtk) sz)) 0 0 (va_A (RSw cI cZ b0 bR bI bC bY bZ bF bL bN bX bT mcd mwd men mR mI mC mY mZ mF mmd mhi mL mN mfr mX mT mct mtk) sz) := by
  refine Met.ofW (cc := c_R_copy) (maxL := 8) (ret := (some .int)) (by decide) rfl ?_
  intro p e s m args below meth c s₁ B hml hv
  obtain ⟨rfl, hsz, hP, hK, hD0⟩ := hv
  have hx := B.exec
  have hb := B.bytes
  have hr9 := B.returns
  have hts := atoms_spec (ws := ws_R_copy) B.pre
  have hw : ∀ w ∈ WB_, w.before _ s = true := fun w h => hts w (List.mem_cons_of_mem _ h)
  have hown : s.vm.findClass R_R = some m.cls := findClass_of_methodNamed B.named
  have hlocks := B.notSynchronized
  subst hsz
  have hD := hD0.self (sz := s.heap.size)
  generalize hAe : va_A (RSw cI cZ b0 bR bI bC bY bZ bF bL bN bX bT mcd mwd men mR mI mC mY mZ mF mmd mhi mL mN mfr mX mT mct mtk) s.heap.size = A at hD ⊢
  have hA : ∀ q : Nat, s.heap.size ≤ q → A q := fun q h => by rw [← hAe]; exact Or.inr h
  have hS : va_S A s.heap s.heap [] := va_S.rf
  have hl := lv_entry ([.ref b0, .int a1, .int a2]) (n := 8) (Nat.le_of_ble_eq_true rfl)
  rw [lg_entry_eq]
  generalize (lg_sl ([.ref b0, .int a1, .int a2]) ++ List.replicate (8 - (lg_sl ([.ref b0, .int a1, .int a2])).length) Slot.unset).toArray = ls at hl ⊢
  have hl : lv_has ls 8 [(0, .ref b0), (1, .int a1), (2, .int a2)] := hl
  have lp_120 : ∀ (y1_120 : Int32) (y2_120 : Int32) (y3_120 : Int32) (y4_120 : Int32) (y5_120 : Int32) (mcdf_120 : Int32) (mRf_120 : Nat → Int32) (mIf_120 : Nat → Int32) (mCf_120 : Nat → Int32) (mYf_120 : Nat → Int32) (mZf_120 : Nat → Int32) (mFf_120 : Nat → Int32) (mmdf_120 : Int32) (mhif_120 : Int32) (mNf_120 : Nat → Int32) (mfrf_120 : Int32) (mXf_120 : Nat → Int32) (mTf_120 : Nat → Int32) (mctf_120 : Int32) (mtkf_120 : Int32) (kx : Int32 → Int32 → (Nat → Int32) → Prop), (∀ (z6_120 : Int32) (z7_120 : Int32) (mLe_120 : Nat → Int32) (H : Heap) (locs : List Loc) (ls : Array Slot), va_P (dC, dI) vwCl (RSw cI cZ b0 bR bI bC bY bZ bF bL bN bX bT mcdf_120 mwd men mRf_120 mIf_120 mCf_120 mYf_120 mZf_120 mFf_120 mmdf_120 mhif_120 mLe_120 mNf_120 mfrf_120 mXf_120 mTf_120 mctf_120 mtkf_120) H → va_D A (RSw cI cZ b0 bR bI bC bY bZ bF bL bN bX bT mcdf_120 mwd men mRf_120 mIf_120 mCf_120 mYf_120 mZf_120 mFf_120 mmdf_120 mhif_120 mLe_120 mNf_120 mfrf_120 mXf_120 mTf_120 mctf_120 mtkf_120) → va_S A s.heap H locs → lv_has ls 8 [(0, .ref b0), (1, .int y1_120), (2, .int y2_120), (3, .int y3_120), (4, .int y4_120), (5, .int y5_120), (6, .int z6_120), (7, .int z7_120)] → kx z6_120 z7_120 mLe_120 → W p l e (headSpec ws_R_copy ({ frames := 5, cells := 0, slots := 0, locals := 108 })).room s m ([.ref b0, .int a1, .int a2] : List Value).toArray below meth c H locs (0) (0) (MQ below (va_Qi (fun (r : Int32) (u : Int32 × (Nat → Int32) × (Nat → Int32) × (Nat → Int32) × (Nat → Int32) × (Nat → Int32) × (Nat → Int32) × Int32 × Int32 × (Nat → Int32) × (Nat → Int32) × Int32 × (Nat → Int32) × (Nat → Int32) × Int32 × Int32) => post r u.1 u.2.1 u.2.2.1 u.2.2.2.1 u.2.2.2.2.1 u.2.2.2.2.2.1 u.2.2.2.2.2.2.1 u.2.2.2.2.2.2.2.1 u.2.2.2.2.2.2.2.2.1 u.2.2.2.2.2.2.2.2.2.1 u.2.2.2.2.2.2.2.2.2.2.1 u.2.2.2.2.2.2.2.2.2.2.2.1 u.2.2.2.2.2.2.2.2.2.2.2.2.1 u.2.2.2.2.2.2.2.2.2.2.2.2.2.1 u.2.2.2.2.2.2.2.2.2.2.2.2.2.2.1 u.2.2.2.2.2.2.2.2.2.2.2.2.2.2.2) (rw_B (dC, dI) vwCl [(cI, .int), (cZ, .boolean)] A (fun u : Int32 × (Nat → Int32) × (Nat → Int32) × (Nat → Int32) × (Nat → Int32) × (Nat → Int32) × (Nat → Int32) × Int32 × Int32 × (Nat → Int32) × (Nat → Int32) × Int32 × (Nat → Int32) × (Nat → Int32) × Int32 × Int32 => RSw cI cZ b0 bR bI bC bY bZ bF bL bN bX bT u.1 mwd men u.2.1 u.2.2.1 u.2.2.2.1 u.2.2.2.2.1 u.2.2.2.2.2.1 u.2.2.2.2.2.2.1 u.2.2.2.2.2.2.2.1 u.2.2.2.2.2.2.2.2.1 u.2.2.2.2.2.2.2.2.2.1 u.2.2.2.2.2.2.2.2.2.2.1 u.2.2.2.2.2.2.2.2.2.2.2.1 u.2.2.2.2.2.2.2.2.2.2.2.2.1 u.2.2.2.2.2.2.2.2.2.2.2.2.2.1 u.2.2.2.2.2.2.2.2.2.2.2.2.2.2.1 u.2.2.2.2.2.2.2.2.2.2.2.2.2.2.2)) A) ([.ref b0, .int a1, .int a2] : List Value).toArray s 0 0 A) (F0 m 160 ls [])) → ∀ (n : Nat) (x6_120 : Int32) (x7_120 : Int32) (mL_120 : Nat → Int32) (H : Heap) (locs : List Loc) (ls : Array Slot), va_P (dC, dI) vwCl (RSw cI cZ b0 bR bI bC bY bZ bF bL bN bX bT mcdf_120 mwd men mRf_120 mIf_120 mCf_120 mYf_120 mZf_120 mFf_120 mmdf_120 mhif_120 mL_120 mNf_120 mfrf_120 mXf_120 mTf_120 mctf_120 mtkf_120) H → va_D A (RSw cI cZ b0 bR bI bC bY bZ bF bL bN bX bT mcdf_120 mwd men mRf_120 mIf_120 mCf_120 mYf_120 mZf_120 mFf_120 mmdf_120 mhif_120 mL_120 mNf_120 mfrf_120 mXf_120 mTf_120 mctf_120 mtkf_120) → va_S A s.heap H locs → lv_has ls 8 [(0, .ref b0), (1, .int y1_120), (2, .int y2_120), (3, .int y3_120), (4, .int y4_120), (5, .int y5_120), (6, .int x6_120), (7, .int x7_120)] → wqR_copy_120 mwd men y1_120 y2_120 y3_120 y4_120 y5_120 mcdf_120 mRf_120 mIf_120 mCf_120 mYf_120 mZf_120 mFf_120 mmdf_120 mhif_120 mNf_120 mfrf_120 mXf_120 mTf_120 mctf_120 mtkf_120 post kx n x6_120 x7_120 mL_120 → W p l e (headSpec ws_R_copy ({ frames := 5, cells := 0, slots := 0, locals := 108 })).room s m ([.ref b0, .int a1, .int a2] : List Value).toArray below meth c H locs (0) (0) (MQ below (va_Qi (fun (r : Int32) (u : Int32 × (Nat → Int32) × (Nat → Int32) × (Nat → Int32) × (Nat → Int32) × (Nat → Int32) × (Nat → Int32) × Int32 × Int32 × (Nat → Int32) × (Nat → Int32) × Int32 × (Nat → Int32) × (Nat → Int32) × Int32 × Int32) => post r u.1 u.2.1 u.2.2.1 u.2.2.2.1 u.2.2.2.2.1 u.2.2.2.2.2.1 u.2.2.2.2.2.2.1 u.2.2.2.2.2.2.2.1 u.2.2.2.2.2.2.2.2.1 u.2.2.2.2.2.2.2.2.2.1 u.2.2.2.2.2.2.2.2.2.2.1 u.2.2.2.2.2.2.2.2.2.2.2.1 u.2.2.2.2.2.2.2.2.2.2.2.2.1 u.2.2.2.2.2.2.2.2.2.2.2.2.2.1 u.2.2.2.2.2.2.2.2.2.2.2.2.2.2.1 u.2.2.2.2.2.2.2.2.2.2.2.2.2.2.2) (rw_B (dC, dI) vwCl [(cI, .int), (cZ, .boolean)] A (fun u : Int32 × (Nat → Int32) × (Nat → Int32) × (Nat → Int32) × (Nat → Int32) × (Nat → Int32) × (Nat → Int32) × Int32 × Int32 × (Nat → Int32) × (Nat → Int32) × Int32 × (Nat → Int32) × (Nat → Int32) × Int32 × Int32 => RSw cI cZ b0 bR bI bC bY bZ bF bL bN bX bT u.1 mwd men u.2.1 u.2.2.1 u.2.2.2.1 u.2.2.2.2.1 u.2.2.2.2.2.1 u.2.2.2.2.2.2.1 u.2.2.2.2.2.2.2.1 u.2.2.2.2.2.2.2.2.1 u.2.2.2.2.2.2.2.2.2.1 u.2.2.2.2.2.2.2.2.2.2.1 u.2.2.2.2.2.2.2.2.2.2.2.1 u.2.2.2.2.2.2.2.2.2.2.2.2.1 u.2.2.2.2.2.2.2.2.2.2.2.2.2.1 u.2.2.2.2.2.2.2.2.2.2.2.2.2.2.1 u.2.2.2.2.2.2.2.2.2.2.2.2.2.2.2)) A) ([.ref b0, .int a1, .int a2] : List Value).toArray s 0 0 A) (F0 m 120 ls []) := by
    intro y1_120 y2_120 y3_120 y4_120 y5_120 mcdf_120 mRf_120 mIf_120 mCf_120 mYf_120 mZf_120 mFf_120 mmdf_120 mhif_120 mNf_120 mfrf_120 mXf_120 mTf_120 mctf_120 mtkf_120 kx K n
    induction n with
    | zero => intro x6_120 x7_120 mL_120 H locs ls hP hD hS hl h; exact h.elim
    | succ n ih =>
      intro x6_120 x7_120 mL_120 H locs ls hP hD hS hl h
      refine lv_iload hx hb d_R_copy_120 (lv_at hl 7 rfl) ?_
      refine lv_if_lt (tgt := 160) hx hb d_R_copy_122 (by decide) (fun c_122 => ?_) (fun c_122 => ?_)
      · have h := h.1 c_122
        exact K x6_120 x7_120 mL_120 H locs ls hP hD hS (lv_sub hl [0, 1, 2, 3, 4, 5, 6, 7] rfl) h
      · have h := h.2 c_122
        refine lv_aload_n hx hb d_R_copy_125 rfl (lv_at hl 0 rfl) ?_
        refine va_get (D := (dC, dI)) (ci := 2) (v := .ref bL) (C := R_R) (T := T_R) (N := 18) hx hb hw in_R hown hK hP 0 rfl rfl 11 (by decide) (hw _ wd_627) (fun _ h9 => h9) rfl d_R_copy_126 ?_
        refine lv_iload hx hb d_R_copy_129 (lv_at hl 6 rfl) ?_
        refine lv_aload_n hx hb d_R_copy_131 rfl (lv_at hl 0 rfl) ?_
        refine va_get (D := (dC, dI)) (ci := 2) (v := .ref bL) (C := R_R) (T := T_R) (N := 18) hx hb hw in_R hown hK hP 0 rfl rfl 11 (by decide) (hw _ wd_627) (fun _ h9 => h9) rfl d_R_copy_132 ?_
        refine lv_iload hx hb d_R_copy_135 (lv_at hl 7 rfl) ?_
        refine va_iald hx hb hK hP 7 0 rfl rfl h.1 d_R_copy_137 ?_
        have h := h.2
        refine va_iast hx hb hK hP hD hS 7 0 rfl rfl h.1 d_R_copy_138 (fun H locs hP hD hS => ?_)
        have hP : va_P (dC, dI) vwCl (RSw cI cZ b0 bR bI bC bY bZ bF bL bN bX bT mcdf_120 mwd men mRf_120 mIf_120 mCf_120 mYf_120 mZf_120 mFf_120 mmdf_120 mhif_120 (upd mL_120 x6_120.toNatClampNeg (mL_120 x7_120.toNatClampNeg)) mNf_120 mfrf_120 mXf_120 mTf_120 mctf_120 mtkf_120) H := hP
        have hD : va_D A (RSw cI cZ b0 bR bI bC bY bZ bF bL bN bX bT mcdf_120 mwd men mRf_120 mIf_120 mCf_120 mYf_120 mZf_120 mFf_120 mmdf_120 mhif_120 (upd mL_120 x6_120.toNatClampNeg (mL_120 x7_120.toNatClampNeg)) mNf_120 mfrf_120 mXf_120 mTf_120 mctf_120 mtkf_120) := hD
        have h := h.2
        refine lv_aload_n hx hb d_R_copy_139 rfl (lv_at hl 0 rfl) ?_
        refine va_get (D := (dC, dI)) (ci := 2) (v := .ref bN) (C := R_R) (T := T_R) (N := 18) hx hb hw in_R hown hK hP 0 rfl rfl 12 (by decide) (hw _ wd_628) (fun _ h9 => h9) rfl d_R_copy_140 ?_
        refine lv_iload hx hb d_R_copy_143 (lv_at hl 6 rfl) ?_
        refine va_iald hx hb hK hP 8 0 rfl rfl h.1 d_R_copy_145 ?_
        have h := h.2
        refine lv_istore (lv' := [(6, .int (mNf_120 x6_120.toNatClampNeg)), (0, .ref b0), (1, .int y1_120), (2, .int y2_120), (3, .int y3_120), (4, .int y4_120), (5, .int y5_120), (7, .int x7_120)]) hx hb d_R_copy_146 hl (by decide) rfl (fun ls hl => ?_)
        refine lv_aload_n hx hb d_R_copy_148 rfl (lv_at hl 1 rfl) ?_
        refine va_get (D := (dC, dI)) (ci := 2) (v := .ref bN) (C := R_R) (T := T_R) (N := 18) hx hb hw in_R hown hK hP 0 rfl rfl 12 (by decide) (hw _ wd_628) (fun _ h9 => h9) rfl d_R_copy_149 ?_
        refine lv_iload hx hb d_R_copy_152 (lv_at hl 7 rfl) ?_
        refine va_iald hx hb hK hP 8 0 rfl rfl h.1 d_R_copy_154 ?_
        have h := h.2
        refine lv_istore (lv' := [(7, .int (mNf_120 x7_120.toNatClampNeg)), (6, .int (mNf_120 x6_120.toNatClampNeg)), (0, .ref b0), (1, .int y1_120), (2, .int y2_120), (3, .int y3_120), (4, .int y4_120), (5, .int y5_120)]) hx hb d_R_copy_155 hl (by decide) rfl (fun ls hl => ?_)
        refine lv_goto (tgt := 120) hx hb d_R_copy_157 (by decide) ?_
        exact ih (mNf_120 x6_120.toNatClampNeg) (mNf_120 x7_120.toNatClampNeg) (upd mL_120 x6_120.toNatClampNeg (mL_120 x7_120.toNatClampNeg)) H locs ls hP hD hS (lv_sub hl [2, 3, 4, 5, 6, 7, 1, 0] rfl) h
  have lp_55 : ∀ (y1_55 : Int32) (y2_55 : Int32) (y3_55 : Int32) (mcd_55 : Int32) (mR_55 : Nat → Int32) (mI_55 : Nat → Int32) (mC_55 : Nat → Int32) (mY_55 : Nat → Int32) (mZ_55 : Nat → Int32) (mF_55 : Nat → Int32) (mmd_55 : Int32) (mhi_55 : Int32) (mL_55 : Nat → Int32) (mN_55 : Nat → Int32) (mfr_55 : Int32) (mX_55 : Nat → Int32) (mT_55 : Nat → Int32) (mct_55 : Int32) (mtk_55 : Int32) (H : Heap) (locs : List Loc) (ls : Array Slot), va_P (dC, dI) vwCl (RSw cI cZ b0 bR bI bC bY bZ bF bL bN bX bT mcd_55 mwd men mR_55 mI_55 mC_55 mY_55 mZ_55 mF_55 mmd_55 mhi_55 mL_55 mN_55 mfr_55 mX_55 mT_55 mct_55 mtk_55) H → va_D A (RSw cI cZ b0 bR bI bC bY bZ bF bL bN bX bT mcd_55 mwd men mR_55 mI_55 mC_55 mY_55 mZ_55 mF_55 mmd_55 mhi_55 mL_55 mN_55 mfr_55 mX_55 mT_55 mct_55 mtk_55) → va_S A s.heap H locs → lv_has ls 8 [(0, .ref b0), (1, .int y1_55), (2, .int y2_55), (3, .int y3_55)] → wqR_copy_55 mwd men y1_55 y2_55 y3_55 mcd_55 mR_55 mI_55 mC_55 mY_55 mZ_55 mF_55 mmd_55 mhi_55 mL_55 mN_55 mfr_55 mX_55 mT_55 mct_55 mtk_55 post → W p l e (headSpec ws_R_copy ({ frames := 5, cells := 0, slots := 0, locals := 108 })).room s m ([.ref b0, .int a1, .int a2] : List Value).toArray below meth c H locs (0) (0) (MQ below (va_Qi (fun (r : Int32) (u : Int32 × (Nat → Int32) × (Nat → Int32) × (Nat → Int32) × (Nat → Int32) × (Nat → Int32) × (Nat → Int32) × Int32 × Int32 × (Nat → Int32) × (Nat → Int32) × Int32 × (Nat → Int32) × (Nat → Int32) × Int32 × Int32) => post r u.1 u.2.1 u.2.2.1 u.2.2.2.1 u.2.2.2.2.1 u.2.2.2.2.2.1 u.2.2.2.2.2.2.1 u.2.2.2.2.2.2.2.1 u.2.2.2.2.2.2.2.2.1 u.2.2.2.2.2.2.2.2.2.1 u.2.2.2.2.2.2.2.2.2.2.1 u.2.2.2.2.2.2.2.2.2.2.2.1 u.2.2.2.2.2.2.2.2.2.2.2.2.1 u.2.2.2.2.2.2.2.2.2.2.2.2.2.1 u.2.2.2.2.2.2.2.2.2.2.2.2.2.2.1 u.2.2.2.2.2.2.2.2.2.2.2.2.2.2.2) (rw_B (dC, dI) vwCl [(cI, .int), (cZ, .boolean)] A (fun u : Int32 × (Nat → Int32) × (Nat → Int32) × (Nat → Int32) × (Nat → Int32) × (Nat → Int32) × (Nat → Int32) × Int32 × Int32 × (Nat → Int32) × (Nat → Int32) × Int32 × (Nat → Int32) × (Nat → Int32) × Int32 × Int32 => RSw cI cZ b0 bR bI bC bY bZ bF bL bN bX bT u.1 mwd men u.2.1 u.2.2.1 u.2.2.2.1 u.2.2.2.2.1 u.2.2.2.2.2.1 u.2.2.2.2.2.2.1 u.2.2.2.2.2.2.2.1 u.2.2.2.2.2.2.2.2.1 u.2.2.2.2.2.2.2.2.2.1 u.2.2.2.2.2.2.2.2.2.2.1 u.2.2.2.2.2.2.2.2.2.2.2.1 u.2.2.2.2.2.2.2.2.2.2.2.2.1 u.2.2.2.2.2.2.2.2.2.2.2.2.2.1 u.2.2.2.2.2.2.2.2.2.2.2.2.2.2.1 u.2.2.2.2.2.2.2.2.2.2.2.2.2.2.2)) A) ([.ref b0, .int a1, .int a2] : List Value).toArray s 0 0 A) (F0 m 55 ls []) := by
    intro y1_55 y2_55 y3_55 mcd_55 mR_55 mI_55 mC_55 mY_55 mZ_55 mF_55 mmd_55 mhi_55 mL_55 mN_55 mfr_55 mX_55 mT_55 mct_55 mtk_55 H locs ls hP hD hS hl h
    unfold wqR_copy_55 at h
    refine lv_aload_n hx hb d_R_copy_55 rfl (lv_at hl 0 rfl) ?_
    refine va_get (D := (dC, dI)) (ci := 2) (v := .int mcd_55) (C := R_R) (T := T_R) (N := 18) hx hb hw in_R hown hK hP 0 rfl rfl 0 (by decide) (hw _ wd_616) (fun _ h9 => h9) rfl d_R_copy_56 ?_
    refine lv_if_le (tgt := 64) hx hb d_R_copy_59 (by decide) (fun c_59 => ?_) (fun c_59 => ?_)
    · have h := h.1 c_59
      refine lv_aload_n hx hb d_R_copy_64 rfl (lv_at hl 0 rfl) ?_
      refine va_get (D := (dC, dI)) (ci := 2) (v := .ref bR) (C := R_R) (T := T_R) (N := 18) hx hb hw in_R hown hK hP 0 rfl rfl 3 (by decide) (hw _ wd_619) (fun _ h9 => h9) rfl d_R_copy_65 ?_
      refine lv_iload_n hx hb d_R_copy_68 rfl (lv_at hl 2 rfl) ?_
      refine va_iald hx hb hK hP 1 0 rfl rfl h.1 d_R_copy_69 ?_
      have h := h.2
      refine rq_calli (W.runS (As := [.int (mR_55 y2_55.toNatClampNeg)]) (rest := []) ⟨hx, hb, hml, hown, hw⟩ (mR_placeOf l (mR_55 y2_55.toNatClampNeg) _ h) (va_cwS 1 hw g_R_62 rfl rfl rfl (by decide +kernel) ⟨Nat.le_of_ble_eq_true rfl, Nat.le_of_ble_eq_true rfl⟩) preEq rfl rfl hl.1 rfl (lv_room (Nat.le_of_ble_eq_true rfl)) d_R_copy_70 ⟨Nat.le_of_ble_eq_true rfl, Nat.le_of_ble_eq_true rfl⟩) (fun r70 h => ?_)
      refine lv_istore (lv' := [(4, .int r70), (0, .ref b0), (1, .int y1_55), (2, .int y2_55), (3, .int y3_55)]) hx hb d_R_copy_73 hl (by decide) rfl (fun ls hl => ?_)
      refine lv_aload_n hx hb d_R_copy_75 rfl (lv_at hl 1 rfl) ?_
      refine lv_aload_n hx hb d_R_copy_76 rfl (lv_at hl 1 rfl) ?_
      refine va_get (D := (dC, dI)) (ci := 2) (v := .ref bC) (C := R_R) (T := T_R) (N := 18) hx hb hw in_R hown hK hP 0 rfl rfl 5 (by decide) (hw _ wd_621) (fun _ h9 => h9) rfl d_R_copy_77 ?_
      refine lv_iload hx hb d_R_copy_80 (lv_at hl 0 rfl) ?_
      refine va_iald hx hb hK hP 3 0 rfl rfl h.1 d_R_copy_82 ?_
      have h := h.2
      refine lv_aload_n hx hb d_R_copy_83 rfl (lv_at hl 1 rfl) ?_
      refine va_get (D := (dC, dI)) (ci := 2) (v := .ref bZ) (C := R_R) (T := T_R) (N := 18) hx hb hw in_R hown hK hP 0 rfl rfl 7 (by decide) (hw _ wd_623) (fun _ h9 => h9) rfl d_R_copy_84 ?_
      refine lv_iload hx hb d_R_copy_87 (lv_at hl 0 rfl) ?_
      refine va_iald hx hb hK hP 5 0 rfl rfl h.1 d_R_copy_89 ?_
      have h := h.2
      refine lv_aload_n hx hb d_R_copy_90 rfl (lv_at hl 1 rfl) ?_
      refine va_get (D := (dC, dI)) (ci := 2) (v := .ref bY) (C := R_R) (T := T_R) (N := 18) hx hb hw in_R hown hK hP 0 rfl rfl 6 (by decide) (hw _ wd_622) (fun _ h9 => h9) rfl d_R_copy_91 ?_
      refine lv_iload hx hb d_R_copy_94 (lv_at hl 0 rfl) ?_
      refine va_zald hx hb hK hP 4 1 rfl rfl h.1 d_R_copy_96 ?_
      have h := h.2
      have hFc := va_free (wc := RSw cI cZ b0 bR bI bC bY bZ bF bL bN bX bT mcd_55 mwd men mR_55 mI_55 mC_55 mY_55 mZ_55 mF_55 mmd_55 mhi_55 mL_55 mN_55 mfr_55 mX_55 mT_55 mct_55 mtk_55) hD hS hA [0, 1, 2, 3, 4, 5, 6, 7, 8, 9, 10] rfl
      refine va_calli (va_runV (As := [.int (mC_55 r70.toNatClampNeg), .int (mZ_55 r70.toNatClampNeg), .int (mY_55 r70.toNatClampNeg)]) (rest := []) ⟨hx, hb, hml, hown, hw⟩ (mR_add l dC dI cI cZ b0 bR bI bC bY bZ bF bL bN bX bT H.size mcd_55 mwd men mR_55 mI_55 mC_55 mY_55 mZ_55 mF_55 mmd_55 mhi_55 mL_55 mN_55 mfr_55 mX_55 mT_55 mct_55 mtk_55 (mC_55 r70.toNatClampNeg) (mZ_55 r70.toNatClampNeg) (mY_55 r70.toNatClampNeg) _ h) (cwV 3 hw g_R_107 rfl rfl rfl (by decide +kernel) ⟨Nat.le_of_ble_eq_true rfl, Nat.le_of_ble_eq_true rfl⟩) (rw_PV (ci := 2) (q0 := 0) hK hP hD rfl rfl) rfl rfl hl.1 rfl (lv_room (Nat.le_of_ble_eq_true rfl)) d_R_copy_97 ⟨Nat.le_of_ble_eq_true rfl, Nat.le_of_ble_eq_true rfl⟩) hS (fun q _ h => hFc q h) hFc (fun r97 u t H locs ht hvm h hB hz1 hk1 hS => ?_)
      obtain ⟨mI_97, mC_97, mY_97, mZ_97, mF_97, mmd_97, mhi_97, mL_97, mN_97, mfr_97⟩ := u
      obtain ⟨hP, hK1, hD1⟩ := hB
      rw [ht] at hP
      have hD := hD1.weaken (fun _ _ _ q => hFc _ q)
      clear hFc hD1 hK1
      try dsimp only at h
      have hP : va_P (dC, dI) vwCl (RSw cI cZ b0 bR bI bC bY bZ bF bL bN bX bT mcd_55 mwd men mR_55 mI_97 mC_97 mY_97 mZ_97 mF_97 mmd_97 mhi_97 mL_97 mN_97 mfr_97 mX_55 mT_55 mct_55 mtk_55) H := hP
      have hD : va_D A (RSw cI cZ b0 bR bI bC bY bZ bF bL bN bX bT mcd_55 mwd men mR_55 mI_97 mC_97 mY_97 mZ_97 mF_97 mmd_97 mhi_97 mL_97 mN_97 mfr_97 mX_55 mT_55 mct_55 mtk_55) := hD
      refine lv_istore (lv' := [(5, .int r97), (4, .int r70), (0, .ref b0), (1, .int y1_55), (2, .int y2_55), (3, .int y3_55)]) hx hb d_R_copy_100 hl (by decide) rfl (fun ls hl => ?_)
      refine lv_aload_n hx hb d_R_copy_102 rfl (lv_at hl 2 rfl) ?_
      refine va_get (D := (dC, dI)) (ci := 2) (v := .ref bF) (C := R_R) (T := T_R) (N := 18) hx hb hw in_R hown hK hP 0 rfl rfl 8 (by decide) (hw _ wd_624) (fun _ h9 => h9) rfl d_R_copy_103 ?_
      refine lv_iload hx hb d_R_copy_106 (lv_at hl 0 rfl) ?_
      refine va_iald hx hb hK hP 6 0 rfl rfl h.1 d_R_copy_108 ?_
      have h := h.2
      refine lv_istore (lv' := [(6, .int (mF_97 r97.toNatClampNeg)), (5, .int r97), (4, .int r70), (0, .ref b0), (1, .int y1_55), (2, .int y2_55), (3, .int y3_55)]) hx hb d_R_copy_109 hl (by decide) rfl (fun ls hl => ?_)
      refine lv_aload_n hx hb d_R_copy_111 rfl (lv_at hl 3 rfl) ?_
      refine va_get (D := (dC, dI)) (ci := 2) (v := .ref bF) (C := R_R) (T := T_R) (N := 18) hx hb hw in_R hown hK hP 0 rfl rfl 8 (by decide) (hw _ wd_624) (fun _ h9 => h9) rfl d_R_copy_112 ?_
      refine lv_iload hx hb d_R_copy_115 (lv_at hl 2 rfl) ?_
      refine va_iald hx hb hK hP 6 0 rfl rfl h.1 d_R_copy_117 ?_
      have h := h.2
      refine lv_istore (lv' := [(7, .int (mF_97 r70.toNatClampNeg)), (6, .int (mF_97 r97.toNatClampNeg)), (5, .int r97), (4, .int r70), (0, .ref b0), (1, .int y1_55), (2, .int y2_55), (3, .int y3_55)]) hx hb d_R_copy_118 hl (by decide) rfl (fun ls hl => ?_)
      obtain ⟨n_120, h⟩ := h
      refine lp_120 y1_55 y2_55 y3_55 r70 r97 mcd_55 mR_55 mI_97 mC_97 mY_97 mZ_97 mF_97 mmd_97 mhi_97 mN_97 mfr_97 mX_55 mT_55 mct_55 mtk_55 _ (fun z6_120 z7_120 mLe_120 H locs ls hP hD hS hl h => ?_) n_120 (mF_97 r97.toNatClampNeg) (mF_97 r70.toNatClampNeg) mL_97 H locs ls hP hD hS (lv_sub hl [4, 5, 6, 7, 3, 2, 1, 0] rfl) h
      refine lv_aload_n hx hb d_R_copy_160 rfl (lv_at hl 0 rfl) ?_
      refine va_get (D := (dC, dI)) (ci := 2) (v := .ref bR) (C := R_R) (T := T_R) (N := 18) hx hb hw in_R hown hK hP 0 rfl rfl 3 (by decide) (hw _ wd_619) (fun _ h9 => h9) rfl d_R_copy_161 ?_
      refine lv_iload_n hx hb d_R_copy_164 rfl (lv_at hl 1 rfl) ?_
      refine lv_iload hx hb d_R_copy_165 (lv_at hl 5 rfl) ?_
      refine rq_calli (W.runS (As := [.int r97]) (rest := [.int y1_55, .ref bR]) ⟨hx, hb, hml, hown, hw⟩ (mR_valueOf l r97 _ h) (va_cwS 1 hw g_R_111 rfl rfl rfl (by decide +kernel) ⟨Nat.le_of_ble_eq_true rfl, Nat.le_of_ble_eq_true rfl⟩) preEq rfl rfl hl.1 rfl (lv_room (Nat.le_of_ble_eq_true rfl)) d_R_copy_167 ⟨Nat.le_of_ble_eq_true rfl, Nat.le_of_ble_eq_true rfl⟩) (fun r167 h => ?_)
      refine va_iast hx hb hK hP hD hS 1 0 rfl rfl h.1 d_R_copy_170 (fun H locs hP hD hS => ?_)
      have hP : va_P (dC, dI) vwCl (RSw cI cZ b0 bR bI bC bY bZ bF bL bN bX bT mcd_55 mwd men (upd mR_55 y1_55.toNatClampNeg r167) mI_97 mC_97 mY_97 mZ_97 mF_97 mmd_97 mhi_97 mLe_120 mN_97 mfr_97 mX_55 mT_55 mct_55 mtk_55) H := hP
      have hD : va_D A (RSw cI cZ b0 bR bI bC bY bZ bF bL bN bX bT mcd_55 mwd men (upd mR_55 y1_55.toNatClampNeg r167) mI_97 mC_97 mY_97 mZ_97 mF_97 mmd_97 mhi_97 mLe_120 mN_97 mfr_97 mX_55 mT_55 mct_55 mtk_55) := hD
      have h := h.2
      refine lv_aload_n hx hb d_R_copy_171 rfl (lv_at hl 0 rfl) ?_
      refine va_get (D := (dC, dI)) (ci := 2) (v := .int mmd_97) (C := R_R) (T := T_R) (N := 18) hx hb hw in_R hown hK hP 0 rfl rfl 9 (by decide) (hw _ wd_625) (fun _ h9 => h9) rfl d_R_copy_172 ?_
      exact W.iret (v := mmd_97) hx hb hr9 (fun t ht hW => ⟨⟨_, (mcd_55, upd mR_55 y1_55.toNatClampNeg r167, mI_97, mC_97, mY_97, mZ_97, mF_97, mmd_97, mhi_97, mLe_120, mN_97, mfr_97, mX_55, mT_55, mct_55, mtk_55), rfl, h, by rw [ht]; exact hP, va_K.moved hW.alike hK, hD⟩, hS.F ht⟩) hS.2.2 d_R_copy_175
    · have h := h.2 c_59
      refine lv_iconst (v := (0 : Int32)) hx hb d_R_copy_62 (by decide) ?_
      exact W.iret (v := (0 : Int32)) hx hb hr9 (fun t ht hW => ⟨⟨_, (mcd_55, mR_55, mI_55, mC_55, mY_55, mZ_55, mF_55, mmd_55, mhi_55, mL_55, mN_55, mfr_55, mX_55, mT_55, mct_55, mtk_55), rfl, h, by rw [ht]; exact hP, va_K.moved hW.alike hK, hD⟩, hS.F ht⟩) hS.2.2 d_R_copy_63
  have lp_21 : ∀ (y1_21 : Int32) (y2_21 : Int32) (y3_21 : Int32) (mcd_21 : Int32) (mR_21 : Nat → Int32) (mI_21 : Nat → Int32) (mC_21 : Nat → Int32) (mY_21 : Nat → Int32) (mZ_21 : Nat → Int32) (mF_21 : Nat → Int32) (mmd_21 : Int32) (mhi_21 : Int32) (mL_21 : Nat → Int32) (mN_21 : Nat → Int32) (mfr_21 : Int32) (mX_21 : Nat → Int32) (mT_21 : Nat → Int32) (mct_21 : Int32) (mtk_21 : Int32) (H : Heap) (locs : List Loc) (ls : Array Slot), va_P (dC, dI) vwCl (RSw cI cZ b0 bR bI bC bY bZ bF bL bN bX bT mcd_21 mwd men mR_21 mI_21 mC_21 mY_21 mZ_21 mF_21 mmd_21 mhi_21 mL_21 mN_21 mfr_21 mX_21 mT_21 mct_21 mtk_21) H → va_D A (RSw cI cZ b0 bR bI bC bY bZ bF bL bN bX bT mcd_21 mwd men mR_21 mI_21 mC_21 mY_21 mZ_21 mF_21 mmd_21 mhi_21 mL_21 mN_21 mfr_21 mX_21 mT_21 mct_21 mtk_21) → va_S A s.heap H locs → lv_has ls 8 [(0, .ref b0), (1, .int y1_21), (2, .int y2_21), (3, .int y3_21)] → wqR_copy_21 mwd men y1_21 y2_21 y3_21 mcd_21 mR_21 mI_21 mC_21 mY_21 mZ_21 mF_21 mmd_21 mhi_21 mL_21 mN_21 mfr_21 mX_21 mT_21 mct_21 mtk_21 post → W p l e (headSpec ws_R_copy ({ frames := 5, cells := 0, slots := 0, locals := 108 })).room s m ([.ref b0, .int a1, .int a2] : List Value).toArray below meth c H locs (0) (0) (MQ below (va_Qi (fun (r : Int32) (u : Int32 × (Nat → Int32) × (Nat → Int32) × (Nat → Int32) × (Nat → Int32) × (Nat → Int32) × (Nat → Int32) × Int32 × Int32 × (Nat → Int32) × (Nat → Int32) × Int32 × (Nat → Int32) × (Nat → Int32) × Int32 × Int32) => post r u.1 u.2.1 u.2.2.1 u.2.2.2.1 u.2.2.2.2.1 u.2.2.2.2.2.1 u.2.2.2.2.2.2.1 u.2.2.2.2.2.2.2.1 u.2.2.2.2.2.2.2.2.1 u.2.2.2.2.2.2.2.2.2.1 u.2.2.2.2.2.2.2.2.2.2.1 u.2.2.2.2.2.2.2.2.2.2.2.1 u.2.2.2.2.2.2.2.2.2.2.2.2.1 u.2.2.2.2.2.2.2.2.2.2.2.2.2.1 u.2.2.2.2.2.2.2.2.2.2.2.2.2.2.1 u.2.2.2.2.2.2.2.2.2.2.2.2.2.2.2) (rw_B (dC, dI) vwCl [(cI, .int), (cZ, .boolean)] A (fun u : Int32 × (Nat → Int32) × (Nat → Int32) × (Nat → Int32) × (Nat → Int32) × (Nat → Int32) × (Nat → Int32) × Int32 × Int32 × (Nat → Int32) × (Nat → Int32) × Int32 × (Nat → Int32) × (Nat → Int32) × Int32 × Int32 => RSw cI cZ b0 bR bI bC bY bZ bF bL bN bX bT u.1 mwd men u.2.1 u.2.2.1 u.2.2.2.1 u.2.2.2.2.1 u.2.2.2.2.2.1 u.2.2.2.2.2.2.1 u.2.2.2.2.2.2.2.1 u.2.2.2.2.2.2.2.2.1 u.2.2.2.2.2.2.2.2.2.1 u.2.2.2.2.2.2.2.2.2.2.1 u.2.2.2.2.2.2.2.2.2.2.2.1 u.2.2.2.2.2.2.2.2.2.2.2.2.1 u.2.2.2.2.2.2.2.2.2.2.2.2.2.1 u.2.2.2.2.2.2.2.2.2.2.2.2.2.2.1 u.2.2.2.2.2.2.2.2.2.2.2.2.2.2.2)) A) ([.ref b0, .int a1, .int a2] : List Value).toArray s 0 0 A) (F0 m 21 ls []) := by
    intro y1_21 y2_21 y3_21 mcd_21 mR_21 mI_21 mC_21 mY_21 mZ_21 mF_21 mmd_21 mhi_21 mL_21 mN_21 mfr_21 mX_21 mT_21 mct_21 mtk_21 H locs ls hP hD hS hl h
    unfold wqR_copy_21 at h
    refine lv_aload_n hx hb d_R_copy_21 rfl (lv_at hl 0 rfl) ?_
    refine lv_iload_n hx hb d_R_copy_22 rfl (lv_at hl 3 rfl) ?_
    refine lv_if_ne (tgt := 30) hx hb d_R_copy_23 (by decide) (fun c_23 => ?_) (fun c_23 => ?_)
    · have h := h.2 c_23
      refine lv_aload_n hx hb d_R_copy_30 rfl (lv_at hl 0 rfl) ?_
      refine lv_aload_n hx hb d_R_copy_31 rfl (lv_at hl 0 rfl) ?_
      refine lv_iload_n hx hb d_R_copy_32 rfl (lv_at hl 2 rfl) ?_
      refine rq_calli (W.runV (As := [.int y2_21]) (rest := [.ref b0, .ref b0]) ⟨hx, hb, hml, hown, hw⟩ (mR_sizeOf l dC dI cI cZ b0 bR bI bC bY bZ bF bL bN bX bT mcd_21 mwd men mR_21 mI_21 mC_21 mY_21 mZ_21 mF_21 mmd_21 mhi_21 mL_21 mN_21 mfr_21 mX_21 mT_21 mct_21 mtk_21 y2_21 _ h) (cwV 1 hw g_R_114 rfl rfl rfl (by decide +kernel) ⟨Nat.le_of_ble_eq_true rfl, Nat.le_of_ble_eq_true rfl⟩) (ro_PV (ci := 2) (q0 := 0) hK hP rfl rfl) rfl rfl hl.1 rfl (lv_room (Nat.le_of_ble_eq_true rfl)) d_R_copy_33 ⟨Nat.le_of_ble_eq_true rfl, Nat.le_of_ble_eq_true rfl⟩) (fun r33 h => ?_)
      refine lv_aload_n hx hb d_R_copy_36 rfl (lv_at hl 0 rfl) ?_
      refine lv_iload_n hx hb d_R_copy_37 rfl (lv_at hl 2 rfl) ?_
      refine rq_calli (W.runV (As := [.int y2_21]) (rest := [.int r33, .ref b0, .ref b0]) ⟨hx, hb, hml, hown, hw⟩ (mR_hasBytes l dC dI cI cZ b0 bR bI bC bY bZ bF bL bN bX bT mcd_21 mwd men mR_21 mI_21 mC_21 mY_21 mZ_21 mF_21 mmd_21 mhi_21 mL_21 mN_21 mfr_21 mX_21 mT_21 mct_21 mtk_21 y2_21 _ h) (cwV 1 hw g_R_117 rfl rfl rfl (by decide +kernel) ⟨Nat.le_of_ble_eq_true rfl, Nat.le_of_ble_eq_true rfl⟩) (ro_PV (ci := 2) (q0 := 0) hK hP rfl rfl) rfl rfl hl.1 rfl (lv_room (Nat.le_of_ble_eq_true rfl)) d_R_copy_38 ⟨Nat.le_of_ble_eq_true rfl, Nat.le_of_ble_eq_true rfl⟩) (fun r38 h => ?_)
      have hFc := va_free (wc := RSw cI cZ b0 bR bI bC bY bZ bF bL bN bX bT mcd_21 mwd men mR_21 mI_21 mC_21 mY_21 mZ_21 mF_21 mmd_21 mhi_21 mL_21 mN_21 mfr_21 mX_21 mT_21 mct_21 mtk_21) hD hS hA [0, 1, 2, 3, 4, 5, 6, 7, 8, 9, 10] rfl
      refine va_calli (va_runV (As := [.int r33, .int r38]) (rest := [.ref b0]) ⟨hx, hb, hml, hown, hw⟩ (mR_canMake l dC dI cI cZ b0 bR bI bC bY bZ bF bL bN bX bT H.size mcd_21 mwd men mR_21 mI_21 mC_21 mY_21 mZ_21 mF_21 mmd_21 mhi_21 mL_21 mN_21 mfr_21 mX_21 mT_21 mct_21 mtk_21 r33 r38 _ h) (cwV 2 hw g_R_103 rfl rfl rfl (by decide +kernel) ⟨Nat.le_of_ble_eq_true rfl, Nat.le_of_ble_eq_true rfl⟩) (rw_PV (ci := 2) (q0 := 0) hK hP hD rfl rfl) rfl rfl hl.1 rfl (lv_room (Nat.le_of_ble_eq_true rfl)) d_R_copy_41 ⟨Nat.le_of_ble_eq_true rfl, Nat.le_of_ble_eq_true rfl⟩) hS (fun q _ h => hFc q h) hFc (fun r41 u t H locs ht hvm h hB hz1 hk1 hS => ?_)
      obtain ⟨mI_41, mhi_41, mN_41, mfr_41, mX_41, mT_41, mct_41, mtk_41⟩ := u
      obtain ⟨hP, hK1, hD1⟩ := hB
      rw [ht] at hP
      have hD := hD1.weaken (fun _ _ _ q => hFc _ q)
      clear hFc hD1 hK1
      try dsimp only at h
      have hP : va_P (dC, dI) vwCl (RSw cI cZ b0 bR bI bC bY bZ bF bL bN bX bT mcd_21 mwd men mR_21 mI_41 mC_21 mY_21 mZ_21 mF_21 mmd_21 mhi_41 mL_21 mN_41 mfr_41 mX_41 mT_41 mct_41 mtk_41) H := hP
      have hD : va_D A (RSw cI cZ b0 bR bI bC bY bZ bF bL bN bX bT mcd_21 mwd men mR_21 mI_41 mC_21 mY_21 mZ_21 mF_21 mmd_21 mhi_41 mL_21 mN_41 mfr_41 mX_41 mT_41 mct_41 mtk_41) := hD
      refine lv_if_ne (tgt := 51) hx hb d_R_copy_44 (by decide) (fun c_44 => ?_) (fun c_44 => ?_)
      · have h := h.2 c_44
        refine lv_iconst (v := (0 : Int32)) hx hb d_R_copy_51 (by decide) ?_
        refine va_put (D := (dC, dI)) (ci := 2) (v := .int (0 : Int32)) (ty := .int) (C := R_R) (T := T_R) (N := 18) hx hb hw in_R ty_R ty_R_ok nm_R hown hK hP hD hS 0 rfl rfl 0 (by decide) (hw _ wd_616) (fun _ h9 => h9) rfl (by decide +kernel) rfl rfl (Nat.le_of_ble_eq_true rfl) d_R_copy_52 (fun H locs hP hD hS => ?_)
        have hP : va_P (dC, dI) vwCl (RSw cI cZ b0 bR bI bC bY bZ bF bL bN bX bT (0 : Int32) mwd men mR_21 mI_41 mC_21 mY_21 mZ_21 mF_21 mmd_21 mhi_41 mL_21 mN_41 mfr_41 mX_41 mT_41 mct_41 mtk_41) H := hP
        have hD : va_D A (RSw cI cZ b0 bR bI bC bY bZ bF bL bN bX bT (0 : Int32) mwd men mR_21 mI_41 mC_21 mY_21 mZ_21 mF_21 mmd_21 mhi_41 mL_21 mN_41 mfr_41 mX_41 mT_41 mct_41 mtk_41) := hD
        exact lp_55 y1_21 y2_21 y3_21 (0 : Int32) mR_21 mI_41 mC_21 mY_21 mZ_21 mF_21 mmd_21 mhi_41 mL_21 mN_41 mfr_41 mX_41 mT_41 mct_41 mtk_41 H locs ls hP hD hS (lv_sub hl [0, 1, 2, 3] rfl) h
      · have h := h.1 c_44
        refine lv_iconst (v := (2 : Int32)) hx hb d_R_copy_47 (by decide) ?_
        refine lv_goto (tgt := 52) hx hb d_R_copy_48 (by decide) ?_
        refine va_put (D := (dC, dI)) (ci := 2) (v := .int (2 : Int32)) (ty := .int) (C := R_R) (T := T_R) (N := 18) hx hb hw in_R ty_R ty_R_ok nm_R hown hK hP hD hS 0 rfl rfl 0 (by decide) (hw _ wd_616) (fun _ h9 => h9) rfl (by decide +kernel) rfl rfl (Nat.le_of_ble_eq_true rfl) d_R_copy_52 (fun H locs hP hD hS => ?_)
        have hP : va_P (dC, dI) vwCl (RSw cI cZ b0 bR bI bC bY bZ bF bL bN bX bT (2 : Int32) mwd men mR_21 mI_41 mC_21 mY_21 mZ_21 mF_21 mmd_21 mhi_41 mL_21 mN_41 mfr_41 mX_41 mT_41 mct_41 mtk_41) H := hP
        have hD : va_D A (RSw cI cZ b0 bR bI bC bY bZ bF bL bN bX bT (2 : Int32) mwd men mR_21 mI_41 mC_21 mY_21 mZ_21 mF_21 mmd_21 mhi_41 mL_21 mN_41 mfr_41 mX_41 mT_41 mct_41 mtk_41) := hD
        exact lp_55 y1_21 y2_21 y3_21 (2 : Int32) mR_21 mI_41 mC_21 mY_21 mZ_21 mF_21 mmd_21 mhi_41 mL_21 mN_41 mfr_41 mX_41 mT_41 mct_41 mtk_41 H locs ls hP hD hS (lv_sub hl [0, 1, 2, 3] rfl) h
    · have h := h.1 c_23
      refine lv_iconst (v := (1 : Int32)) hx hb d_R_copy_26 (by decide) ?_
      refine lv_goto (tgt := 52) hx hb d_R_copy_27 (by decide) ?_
      refine va_put (D := (dC, dI)) (ci := 2) (v := .int (1 : Int32)) (ty := .int) (C := R_R) (T := T_R) (N := 18) hx hb hw in_R ty_R ty_R_ok nm_R hown hK hP hD hS 0 rfl rfl 0 (by decide) (hw _ wd_616) (fun _ h9 => h9) rfl (by decide +kernel) rfl rfl (Nat.le_of_ble_eq_true rfl) d_R_copy_52 (fun H locs hP hD hS => ?_)
      have hP : va_P (dC, dI) vwCl (RSw cI cZ b0 bR bI bC bY bZ bF bL bN bX bT (1 : Int32) mwd men mR_21 mI_21 mC_21 mY_21 mZ_21 mF_21 mmd_21 mhi_21 mL_21 mN_21 mfr_21 mX_21 mT_21 mct_21 mtk_21) H := hP
      have hD : va_D A (RSw cI cZ b0 bR bI bC bY bZ bF bL bN bX bT (1 : Int32) mwd men mR_21 mI_21 mC_21 mY_21 mZ_21 mF_21 mmd_21 mhi_21 mL_21 mN_21 mfr_21 mX_21 mT_21 mct_21 mtk_21) := hD
      exact lp_55 y1_21 y2_21 y3_21 (1 : Int32) mR_21 mI_21 mC_21 mY_21 mZ_21 mF_21 mmd_21 mhi_21 mL_21 mN_21 mfr_21 mX_21 mT_21 mct_21 mtk_21 H locs ls hP hD hS (lv_sub hl [0, 1, 2, 3] rfl) h
  have lp_19 : ∀ (y1_19 : Int32) (y2_19 : Int32) (mcd_19 : Int32) (mR_19 : Nat → Int32) (mI_19 : Nat → Int32) (mC_19 : Nat → Int32) (mY_19 : Nat → Int32) (mZ_19 : Nat → Int32) (mF_19 : Nat → Int32) (mmd_19 : Int32) (mhi_19 : Int32) (mL_19 : Nat → Int32) (mN_19 : Nat → Int32) (mfr_19 : Int32) (mX_19 : Nat → Int32) (mT_19 : Nat → Int32) (mct_19 : Int32) (mtk_19 : Int32) (H : Heap) (locs : List Loc) (ls : Array Slot), va_P (dC, dI) vwCl (RSw cI cZ b0 bR bI bC bY bZ bF bL bN bX bT mcd_19 mwd men mR_19 mI_19 mC_19 mY_19 mZ_19 mF_19 mmd_19 mhi_19 mL_19 mN_19 mfr_19 mX_19 mT_19 mct_19 mtk_19) H → va_D A (RSw cI cZ b0 bR bI bC bY bZ bF bL bN bX bT mcd_19 mwd men mR_19 mI_19 mC_19 mY_19 mZ_19 mF_19 mmd_19 mhi_19 mL_19 mN_19 mfr_19 mX_19 mT_19 mct_19 mtk_19) → va_S A s.heap H locs → lv_has ls 8 [(0, .ref b0), (1, .int y1_19), (2, .int y2_19)] → wqR_copy_19 mwd men y1_19 y2_19 mcd_19 mR_19 mI_19 mC_19 mY_19 mZ_19 mF_19 mmd_19 mhi_19 mL_19 mN_19 mfr_19 mX_19 mT_19 mct_19 mtk_19 post → W p l e (headSpec ws_R_copy ({ frames := 5, cells := 0, slots := 0, locals := 108 })).room s m ([.ref b0, .int a1, .int a2] : List Value).toArray below meth c H locs (0) (0) (MQ below (va_Qi (fun (r : Int32) (u : Int32 × (Nat → Int32) × (Nat → Int32) × (Nat → Int32) × (Nat → Int32) × (Nat → Int32) × (Nat → Int32) × Int32 × Int32 × (Nat → Int32) × (Nat → Int32) × Int32 × (Nat → Int32) × (Nat → Int32) × Int32 × Int32) => post r u.1 u.2.1 u.2.2.1 u.2.2.2.1 u.2.2.2.2.1 u.2.2.2.2.2.1 u.2.2.2.2.2.2.1 u.2.2.2.2.2.2.2.1 u.2.2.2.2.2.2.2.2.1 u.2.2.2.2.2.2.2.2.2.1 u.2.2.2.2.2.2.2.2.2.2.1 u.2.2.2.2.2.2.2.2.2.2.2.1 u.2.2.2.2.2.2.2.2.2.2.2.2.1 u.2.2.2.2.2.2.2.2.2.2.2.2.2.1 u.2.2.2.2.2.2.2.2.2.2.2.2.2.2.1 u.2.2.2.2.2.2.2.2.2.2.2.2.2.2.2) (rw_B (dC, dI) vwCl [(cI, .int), (cZ, .boolean)] A (fun u : Int32 × (Nat → Int32) × (Nat → Int32) × (Nat → Int32) × (Nat → Int32) × (Nat → Int32) × (Nat → Int32) × Int32 × Int32 × (Nat → Int32) × (Nat → Int32) × Int32 × (Nat → Int32) × (Nat → Int32) × Int32 × Int32 => RSw cI cZ b0 bR bI bC bY bZ bF bL bN bX bT u.1 mwd men u.2.1 u.2.2.1 u.2.2.2.1 u.2.2.2.2.1 u.2.2.2.2.2.1 u.2.2.2.2.2.2.1 u.2.2.2.2.2.2.2.1 u.2.2.2.2.2.2.2.2.1 u.2.2.2.2.2.2.2.2.2.1 u.2.2.2.2.2.2.2.2.2.2.1 u.2.2.2.2.2.2.2.2.2.2.2.1 u.2.2.2.2.2.2.2.2.2.2.2.2.1 u.2.2.2.2.2.2.2.2.2.2.2.2.2.1 u.2.2.2.2.2.2.2.2.2.2.2.2.2.2.1 u.2.2.2.2.2.2.2.2.2.2.2.2.2.2.2)) A) ([.ref b0, .int a1, .int a2] : List Value).toArray s 0 0 A) (F0 m 19 ls []) := by
    intro y1_19 y2_19 mcd_19 mR_19 mI_19 mC_19 mY_19 mZ_19 mF_19 mmd_19 mhi_19 mL_19 mN_19 mfr_19 mX_19 mT_19 mct_19 mtk_19 H locs ls hP hD hS hl h
    unfold wqR_copy_19 at h
    refine lv_iconst (v := (0 : Int32)) hx hb d_R_copy_19 (by decide) ?_
    refine lv_istore_n (lv' := [(3, .int (0 : Int32)), (0, .ref b0), (1, .int y1_19), (2, .int y2_19)]) hx hb d_R_copy_20 rfl hl (by decide) rfl (fun ls hl => ?_)
    exact lp_21 y1_19 y2_19 (0 : Int32) mcd_19 mR_19 mI_19 mC_19 mY_19 mZ_19 mF_19 mmd_19 mhi_19 mL_19 mN_19 mfr_19 mX_19 mT_19 mct_19 mtk_19 H locs ls hP hD hS (lv_sub hl [1, 2, 3, 0] rfl) h
  unfold wqR_copy at h
  refine lv_iload_n hx hb d_R_copy_0 rfl (lv_at hl 1 rfl) ?_
  refine rq_calli (W.runS (As := [.int a1]) (rest := []) ⟨hx, hb, hml, hown, hw⟩ (mR_isRegister l a1 _ h) (va_cwS 1 hw g_R_52 rfl rfl rfl (by decide +kernel) ⟨Nat.le_of_ble_eq_true rfl, Nat.le_of_ble_eq_true rfl⟩) preEq rfl rfl hl.1 rfl (lv_room (Nat.le_of_ble_eq_true rfl)) d_R_copy_1 ⟨Nat.le_of_ble_eq_true rfl, Nat.le_of_ble_eq_true rfl⟩) (fun r1 h => ?_)
  refine lv_if_eq (tgt := 19) hx hb d_R_copy_4 (by decide) (fun c_4 => ?_) (fun c_4 => ?_)
  · have h := h.1 c_4
    exact lp_19 a1 a2 mcd mR mI mC mY mZ mF mmd mhi mL mN mfr mX mT mct mtk s.heap [] ls hP hD hS (lv_sub hl [0, 1, 2] rfl) h
  · have h := h.2 c_4
    refine lv_aload_n hx hb d_R_copy_7 rfl (lv_at hl 0 rfl) ?_
    refine lv_iload_n hx hb d_R_copy_8 rfl (lv_at hl 2 rfl) ?_
    refine rq_calli (W.runV (As := [.int a2]) (rest := []) ⟨hx, hb, hml, hown, hw⟩ (mR_has l dC dI cI cZ b0 bR bI bC bY bZ bF bL bN bX bT mcd mwd men mR mI mC mY mZ mF mmd mhi mL mN mfr mX mT mct mtk a2 _ h) (cwV 1 hw g_R_59 rfl rfl rfl (by decide +kernel) ⟨Nat.le_of_ble_eq_true rfl, Nat.le_of_ble_eq_true rfl⟩) (ro_PV (ci := 2) (q0 := 0) hK hP rfl rfl) rfl rfl hl.1 rfl (lv_room (Nat.le_of_ble_eq_true rfl)) d_R_copy_9 ⟨Nat.le_of_ble_eq_true rfl, Nat.le_of_ble_eq_true rfl⟩) (fun r9 h => ?_)
    refine lv_if_eq (tgt := 19) hx hb d_R_copy_12 (by decide) (fun c_12 => ?_) (fun c_12 => ?_)
    · have h := h.1 c_12
      exact lp_19 a1 a2 mcd mR mI mC mY mZ mF mmd mhi mL mN mfr mX mT mct mtk s.heap [] ls hP hD hS (lv_sub hl [0, 1, 2] rfl) h
    · have h := h.2 c_12
      refine lv_iconst (v := (1 : Int32)) hx hb d_R_copy_15 (by decide) ?_
      refine lv_goto (tgt := 20) hx hb d_R_copy_16 (by decide) ?_
      refine lv_istore_n (lv' := [(3, .int (1 : Int32)), (0, .ref b0), (1, .int a1), (2, .int a2)]) hx hb d_R_copy_20 rfl hl (by decide) rfl (fun ls hl => ?_)
      exact lp_21 a1 a2 (1 : Int32) mcd mR mI mC mY mZ mF mmd mhi mL mN mfr mX mT mct mtk s.heap [] ls hP hD hS (lv_sub hl [1, 2, 3, 0] rfl) h
def wqR_chain_90 (mwd : Int32) (men : Int32) (y1_90 : Int32) (y2_90 : Int32) (y3_90 : Int32) (y4_90 : Int32) (y6_90 : Int32) (mcdf_90 : Int32) (mXf_90 : Nat → Int32) (mTf_90 : Nat → Int32) (mctf_90 : Int32) (mtkf_90 : Int32) (post : Int32 → Int32 → (Nat → Int32) → (Nat → Int32) → (Nat → Int32) → (Nat → Int32) → (Nat → Int32) → (Nat → Int32) → Int32 → Int32 → (Nat → Int32) → (Nat → Int32) → Int32 → (Nat → Int32) → (Nat → Int32) → Int32 → Int32 → Prop) (kx : Int32 → Int32 → (Nat → Int32) → (Nat → Int32) → (Nat → Int32) → (Nat → Int32) → (Nat → Int32) → (Nat → Int32) → Int32 → Int32 → (Nat → Int32) → (Nat → Int32) → Int32 → Prop) : Nat → Int32 → Int32 → (Nat → Int32) → (Nat → Int32) → (Nat → Int32) → (Nat → Int32) → (Nat → Int32) → (Nat → Int32) → Int32 → Int32 → (Nat → Int32) → (Nat → Int32) → Int32 → Prop
  | 0, _, _, _, _, _, _, _, _, _, _, _, _, _ => False
  | n + 1, x5_90, x7_90, mR_90, mI_90, mC_90, mY_90, mZ_90, mF_90, mmd_90, mhi_90, mL_90, mN_90, mfr_90 =>
    (y4_90 ≤ x7_90 → (kx x5_90 x7_90 mR_90 mI_90 mC_90 mY_90 mZ_90 mF_90 mmd_90 mhi_90 mL_90 mN_90 mfr_90)) ∧ (¬ (y4_90 ≤ x7_90) → ((y6_90 ≤ x7_90 → (kx x5_90 x7_90 mR_90 mI_90 mC_90 mY_90 mZ_90 mF_90 mmd_90 mhi_90 mL_90 mN_90 mfr_90)) ∧ (¬ (y6_90 ≤ x7_90) → ((x5_90 < ((4 : Int32) + y3_90) → (kx x5_90 x7_90 mR_90 mI_90 mC_90 mY_90 mZ_90 mF_90 mmd_90 mhi_90 mL_90 mN_90 mfr_90)) ∧ (¬ (x5_90 < ((4 : Int32) + y3_90)) → (vp_in y2_90 32 ∧ (wqR_add mI_90 mC_90 mY_90 mZ_90 mF_90 mmd_90 mhi_90 mL_90 mN_90 mfr_90 (mR_90 y2_90.toNatClampNeg) y3_90 (0 : Int32) (fun r121 mI_121 mC_121 mY_121 mZ_121 mF_121 mmd_121 mhi_121 mL_121 mN_121 mfr_121 => vp_in r121 8192 ∧ (vp_in y1_90 32 ∧ (vp_in (mF_121 r121.toNatClampNeg) 65536 ∧ (wqR_valueOf r121 (fun r151 => vp_in y1_90 32 ∧ (wqR_chain_90 mwd men y1_90 y2_90 y3_90 y4_90 y6_90 mcdf_90 mXf_90 mTf_90 mctf_90 mtkf_90 post kx n ((x5_90 - (4 : Int32)) - y3_90) (x7_90 + (1 : Int32)) (upd mR_90 y1_90.toNatClampNeg r151) mI_121 mC_121 mY_121 mZ_121 mF_121 mmd_121 mhi_121 (upd mL_121 (mF_121 r121.toNatClampNeg).toNatClampNeg (mR_90 y1_90.toNatClampNeg)) mN_121 mfr_121)))))))))))))
def wqR_chain_48 (mwd : Int32) (men : Int32) (y1_48 : Int32) (y2_48 : Int32) (y3_48 : Int32) (y4_48 : Int32) (mcd_48 : Int32) (mR_48 : Nat → Int32) (mI_48 : Nat → Int32) (mC_48 : Nat → Int32) (mY_48 : Nat → Int32) (mZ_48 : Nat → Int32) (mF_48 : Nat → Int32) (mmd_48 : Int32) (mhi_48 : Int32) (mL_48 : Nat → Int32) (mN_48 : Nat → Int32) (mfr_48 : Int32) (mX_48 : Nat → Int32) (mT_48 : Nat → Int32) (mct_48 : Int32) (mtk_48 : Int32) (post : Int32 → Int32 → (Nat → Int32) → (Nat → Int32) → (Nat → Int32) → (Nat → Int32) → (Nat → Int32) → (Nat → Int32) → Int32 → Int32 → (Nat → Int32) → (Nat → Int32) → Int32 → (Nat → Int32) → (Nat → Int32) → Int32 → Int32 → Prop) : Prop :=
  (mcd_48 ≤ 0 → (wqR_reach men mR_48 mC_48 mY_48 mZ_48 mF_48 mL_48 mN_48 mX_48 mT_48 mct_48 mtk_48 (fun mX_58 mT_58 mct_58 mtk_58 => wqR_giveBack men mI_48 mF_48 mhi_48 mN_48 mfr_48 mX_58 (fun mI_62 mhi_62 mN_62 mfr_62 => ∃ k_90, wqR_chain_90 mwd men y1_48 y2_48 y3_48 y4_48 (men - mct_58) mcd_48 mX_58 mT_58 mct_58 mtk_58 post (fun z5_90 z7_90 mRe_90 mIe_90 mCe_90 mYe_90 mZe_90 mFe_90 mmde_90 mhie_90 mLe_90 mNe_90 mfre_90 => post z7_90 mcd_48 mRe_90 mIe_90 mCe_90 mYe_90 mZe_90 mFe_90 mmde_90 mhie_90 mLe_90 mNe_90 mfre_90 mX_58 mT_58 mct_58 mtk_58) k_90 (mwd - mtk_58) (0 : Int32) mR_48 mI_62 mC_48 mY_48 mZ_48 mF_48 mmd_48 mhi_62 mL_48 mN_62 mfr_62)))) ∧ (¬ (mcd_48 ≤ 0) → (post (0 : Int32) mcd_48 mR_48 mI_48 mC_48 mY_48 mZ_48 mF_48 mmd_48 mhi_48 mL_48 mN_48 mfr_48 mX_48 mT_48 mct_48 mtk_48))
def wqR_chain (mcd : Int32) (mwd : Int32) (men : Int32) (mR : Nat → Int32) (mI : Nat → Int32) (mC : Nat → Int32) (mY : Nat → Int32) (mZ : Nat → Int32) (mF : Nat → Int32) (mmd : Int32) (mhi : Int32) (mL : Nat → Int32) (mN : Nat → Int32) (mfr : Int32) (mX : Nat → Int32) (mT : Nat → Int32) (mct : Int32) (mtk : Int32) (a1 : Int32) (a2 : Int32) (a3 : Int32) (a4 : Int32) (post : Int32 → Int32 → (Nat → Int32) → (Nat → Int32) → (Nat → Int32) → (Nat → Int32) → (Nat → Int32) → (Nat → Int32) → Int32 → Int32 → (Nat → Int32) → (Nat → Int32) → Int32 → (Nat → Int32) → (Nat → Int32) → Int32 → Int32 → Prop) : Prop :=
  wqR_isRegister a1 (fun r2 => (r2 = 0 → (wqR_chain_48 mwd men a1 a2 a3 a4 (1 : Int32) mR mI mC mY mZ mF mmd mhi mL mN mfr mX mT mct mtk post)) ∧ (¬ (r2 = 0) → (wqR_isRegister a2 (fun r9 => (r9 = 0 → (wqR_chain_48 mwd men a1 a2 a3 a4 (1 : Int32) mR mI mC mY mZ mF mmd mhi mL mN mfr mX mT mct mtk post)) ∧ (¬ (r9 = 0) → ((a4 < (1 : Int32) → (wqR_chain_48 mwd men a1 a2 a3 a4 (1 : Int32) mR mI mC mY mZ mF mmd mhi mL mN mfr mX mT mct mtk post)) ∧ (¬ (a4 < (1 : Int32)) → (((4000 : Int32) < a4 → (wqR_chain_48 mwd men a1 a2 a3 a4 (1 : Int32) mR mI mC mY mZ mF mmd mhi mL mN mfr mX mT mct mtk post)) ∧ (¬ ((4000 : Int32) < a4) → ((a3 < (1 : Int32) → (wqR_chain_48 mwd men a1 a2 a3 a4 (1 : Int32) mR mI mC mY mZ mF mmd mhi mL mN mfr mX mT mct mtk post)) ∧ (¬ (a3 < (1 : Int32)) → (((100 : Int32) < a3 → (wqR_chain_48 mwd men a1 a2 a3 a4 (1 : Int32) mR mI mC mY mZ mF mmd mhi mL mN mfr mX mT mct mtk post)) ∧ (¬ ((100 : Int32) < a3) → (wqR_chain_48 mwd men a1 a2 a3 a4 (0 : Int32) mR mI mC mY mZ mF mmd mhi mL mN mfr mX mT mct mtk post))))))))))))))
set_option maxHeartbeats 4000000 in
set_option maxRecDepth 100000 in
theorem mR_chain (l : Launch) (dC : Nat → ClassId) (dI : Nat → Nat → Nat) (cI : ClassId) (cZ : ClassId) (b0 : Nat) (bR : Nat) (bI : Nat) (bC : Nat) (bY : Nat) (bZ : Nat) (bF : Nat) (bL : Nat) (bN : Nat) (bX : Nat) (bT : Nat) (sz : Nat) (mcd : Int32) (mwd : Int32) (men : Int32) (mR : Nat → Int32) (mI : Nat → Int32) (mC : Nat → Int32) (mY : Nat → Int32) (mZ : Nat → Int32) (mF : Nat → Int32) (mmd : Int32) (mhi : Int32) (mL : Nat → Int32) (mN : Nat → Int32) (mfr : Int32) (mX : Nat → Int32) (mT : Nat → Int32) (mct : Int32) (mtk : Int32) (a1 : Int32) (a2 : Int32) (a3 : Int32) (a4 : Int32) (post : Int32 → Int32 → (Nat → Int32) → (Nat → Int32) → (Nat → Int32) → (Nat → Int32) → (Nat → Int32) → (Nat → Int32) → Int32 → Int32 → (Nat → Int32) → (Nat → Int32) → Int32 → (Nat → Int32) → (Nat → Int32) → Int32 → Int32 → Prop) (h : wqR_chain mcd mwd men mR mI mC mY mZ mF mmd mhi mL mN mfr mX mT mct mtk a1 a2 a3 a4 post) : Met l y_R_chain ws_R_chain ({ frames := 4, cells := 0, slots := 0, locals := 85 }) (rw_P (dC, dI) vwCl (RSw cI cZ b0 bR bI bC bY bZ bF bL bN bX bT mcd mwd men mR mI mC mY mZ mF mmd mhi mL mN mfr mX mT mct mtk) [(cI, .int), (cZ, .boolean)] sz [.ref b0, .int a1, .int a2, .int a3, .int a4]) (va_Qi (fun (r : Int32) (u : Int32 × (Nat → Int32) × (Nat → Int32) × (Nat → Int32) × (Nat → Int32) × (Nat → Int32) × (Nat → Int32) × Int32 × Int32 × (Nat → Int32) × (Nat → Int32) × Int32 × (Nat → Int32) × (Nat → Int32) × Int32 × Int32) => post r u.1 u.2.1 u.2.2.1 u.2.2.2.1 u.2.2.2.2.1 u.2.2.2.2.2.1 u.2.2.2.2.2.2.1 u.2.2.2.2.2.2.2.1 u.2.2.2.2.2.2.2.2.1 u.2.2.2.2.2.2.2.2.2.1 u.2.2.2.2.2.2.2.2.2.2.1 u.2.2.2.2.2.2.2.2.2.2.2.1 u.2.2.2.2.2.2.2.2.2.2.2.2.1 u.2.2.2.2.2.2.2.2.2.2.2.2.2.1 u.2.2.2.2.2.2.2.2.2.2.2.2.2.2.1 u.2.2.2.2.2.2.2.2.2.2.2.2.2.2.2) (rw_B (dC, dI) vwCl [(cI, .int), (cZ, .boolean)] (va_A (RSw cI cZ b0 bR bI bC bY bZ bF bL bN bX bT mcd mwd men mR mI mC mY mZ mF mmd mhi mL mN mfr mX mT mct mtk) sz) (fun u : Int32 × (Nat → Int32) × (Nat → Int32) × (Nat → Int32) × (Nat → Int32) × (Nat → Int32) × (Nat → Int32) × Int32 × Int32 × (Nat → Int32) × (Nat → Int32) × Int32 × (Nat → Int32) × (Nat → Int32) × Int32 × Int32 => RSw cI cZ b0 bR bI bC bY bZ bF bL bN bX bT u.1 mwd men u.2.1 u.2.2.1 u.2.2.2.1 u.2.2.2.2.1 u.2.2.2.2.2.1 u.2.2.2.2.2.2.1 u.2.2.2.2.2.2.2.1 u.2.2.2.2.2.2.2.2.1 u.2.2.2.2.2.2.2.2.2.1 u.2.2.2.2.2.2.2.2.2.2.1 u.2.2.2.2.2.2.2.2.2.2.2.1 u.2.2.2.2.2.2.2.2.2.2.2.2.1 u.2.2.2.2.2.2.2.2.2.2.2.2.2.1 u.2.2.2.2.2.2.2.2.2.2.2.2.2.2.1 u.2.2.2.2.2.2.2.2.2.2.2.2.2.2.2)) (va_A (RSw cI cZ b0 bR bI bC bY bZ bF bL bN bX bT mcd mwd men mR mI mC mY mZ mF mmd mhi mL mN mfr mX mT mct mtk) sz)) 0 0 (va_A (RSw cI cZ b0 bR bI bC bY bZ bF bL bN bX bT mcd mwd men mR mI mC mY mZ mF mmd mhi mL mN mfr mX mT mct mtk) sz) := by
  refine Met.ofW (cc := c_R_chain) (maxL := 9) (ret := (some .int)) (by decide) rfl ?_
  intro p e s m args below meth c s₁ B hml hv
  obtain ⟨rfl, hsz, hP, hK, hD0⟩ := hv
  have hx := B.exec
  have hb := B.bytes
  have hr9 := B.returns
  have hts := atoms_spec (ws := ws_R_chain) B.pre
  have hw : ∀ w ∈ WB_, w.before _ s = true := fun w h => hts w (List.mem_cons_of_mem _ h)
  have hown : s.vm.findClass R_R = some m.cls := findClass_of_methodNamed B.named
  have hlocks := B.notSynchronized
  subst hsz
  have hD := hD0.self (sz := s.heap.size)
  generalize hAe : va_A (RSw cI cZ b0 bR bI bC bY bZ bF bL bN bX bT mcd mwd men mR mI mC mY mZ mF mmd mhi mL mN mfr mX mT mct mtk) s.heap.size = A at hD ⊢
  have hA : ∀ q : Nat, s.heap.size ≤ q → A q := fun q h => by rw [← hAe]; exact Or.inr h
  have hS : va_S A s.heap s.heap [] := va_S.rf
  have hl := lv_entry ([.ref b0, .int a1, .int a2, .int a3, .int a4]) (n := 9) (Nat.le_of_ble_eq_true rfl)
  rw [lg_entry_eq]
  generalize (lg_sl ([.ref b0, .int a1, .int a2, .int a3, .int a4]) ++ List.replicate (9 - (lg_sl ([.ref b0, .int a1, .int a2, .int a3, .int a4])).length) Slot.unset).toArray = ls at hl ⊢
  have hl : lv_has ls 9 [(0, .ref b0), (1, .int a1), (2, .int a2), (3, .int a3), (4, .int a4)] := hl
  have lp_90 : ∀ (y1_90 : Int32) (y2_90 : Int32) (y3_90 : Int32) (y4_90 : Int32) (y6_90 : Int32) (mcdf_90 : Int32) (mXf_90 : Nat → Int32) (mTf_90 : Nat → Int32) (mctf_90 : Int32) (mtkf_90 : Int32) (kx : Int32 → Int32 → (Nat → Int32) → (Nat → Int32) → (Nat → Int32) → (Nat → Int32) → (Nat → Int32) → (Nat → Int32) → Int32 → Int32 → (Nat → Int32) → (Nat → Int32) → Int32 → Prop), (∀ (z5_90 : Int32) (z7_90 : Int32) (mRe_90 : Nat → Int32) (mIe_90 : Nat → Int32) (mCe_90 : Nat → Int32) (mYe_90 : Nat → Int32) (mZe_90 : Nat → Int32) (mFe_90 : Nat → Int32) (mmde_90 : Int32) (mhie_90 : Int32) (mLe_90 : Nat → Int32) (mNe_90 : Nat → Int32) (mfre_90 : Int32) (H : Heap) (locs : List Loc) (ls : Array Slot), va_P (dC, dI) vwCl (RSw cI cZ b0 bR bI bC bY bZ bF bL bN bX bT mcdf_90 mwd men mRe_90 mIe_90 mCe_90 mYe_90 mZe_90 mFe_90 mmde_90 mhie_90 mLe_90 mNe_90 mfre_90 mXf_90 mTf_90 mctf_90 mtkf_90) H → va_D A (RSw cI cZ b0 bR bI bC bY bZ bF bL bN bX bT mcdf_90 mwd men mRe_90 mIe_90 mCe_90 mYe_90 mZe_90 mFe_90 mmde_90 mhie_90 mLe_90 mNe_90 mfre_90 mXf_90 mTf_90 mctf_90 mtkf_90) → va_S A s.heap H locs → lv_has ls 9 [(0, .ref b0), (1, .int y1_90), (2, .int y2_90), (3, .int y3_90), (4, .int y4_90), (5, .int z5_90), (6, .int y6_90), (7, .int z7_90)] → kx z5_90 z7_90 mRe_90 mIe_90 mCe_90 mYe_90 mZe_90 mFe_90 mmde_90 mhie_90 mLe_90 mNe_90 mfre_90 → W p l e (headSpec ws_R_chain ({ frames := 4, cells := 0, slots := 0, locals := 85 })).room s m ([.ref b0, .int a1, .int a2, .int a3, .int a4] : List Value).toArray below meth c H locs (0) (0) (MQ below (va_Qi (fun (r : Int32) (u : Int32 × (Nat → Int32) × (Nat → Int32) × (Nat → Int32) × (Nat → Int32) × (Nat → Int32) × (Nat → Int32) × Int32 × Int32 × (Nat → Int32) × (Nat → Int32) × Int32 × (Nat → Int32) × (Nat → Int32) × Int32 × Int32) => post r u.1 u.2.1 u.2.2.1 u.2.2.2.1 u.2.2.2.2.1 u.2.2.2.2.2.1 u.2.2.2.2.2.2.1 u.2.2.2.2.2.2.2.1 u.2.2.2.2.2.2.2.2.1 u.2.2.2.2.2.2.2.2.2.1 u.2.2.2.2.2.2.2.2.2.2.1 u.2.2.2.2.2.2.2.2.2.2.2.1 u.2.2.2.2.2.2.2.2.2.2.2.2.1 u.2.2.2.2.2.2.2.2.2.2.2.2.2.1 u.2.2.2.2.2.2.2.2.2.2.2.2.2.2.1 u.2.2.2.2.2.2.2.2.2.2.2.2.2.2.2) (rw_B (dC, dI) vwCl [(cI, .int), (cZ, .boolean)] A (fun u : Int32 × (Nat → Int32) × (Nat → Int32) × (Nat → Int32) × (Nat → Int32) × (Nat → Int32) × (Nat → Int32) × Int32 × Int32 × (Nat → Int32) × (Nat → Int32) × Int32 × (Nat → Int32) × (Nat → Int32) × Int32 × Int32 => RSw cI cZ b0 bR bI bC bY bZ bF bL bN bX bT u.1 mwd men u.2.1 u.2.2.1 u.2.2.2.1 u.2.2.2.2.1 u.2.2.2.2.2.1 u.2.2.2.2.2.2.1 u.2.2.2.2.2.2.2.1 u.2.2.2.2.2.2.2.2.1 u.2.2.2.2.2.2.2.2.2.1 u.2.2.2.2.2.2.2.2.2.2.1 u.2.2.2.2.2.2.2.2.2.2.2.1 u.2.2.2.2.2.2.2.2.2.2.2.2.1 u.2.2.2.2.2.2.2.2.2.2.2.2.2.1 u.2.2.2.2.2.2.2.2.2.2.2.2.2.2.1 u.2.2.2.2.2.2.2.2.2.2.2.2.2.2.2)) A) ([.ref b0, .int a1, .int a2, .int a3, .int a4] : List Value).toArray s 0 0 A) (F0 m 172 ls [])) → ∀ (n : Nat) (x5_90 : Int32) (x7_90 : Int32) (mR_90 : Nat → Int32) (mI_90 : Nat → Int32) (mC_90 : Nat → Int32) (mY_90 : Nat → Int32) (mZ_90 : Nat → Int32) (mF_90 : Nat → Int32) (mmd_90 : Int32) (mhi_90 : Int32) (mL_90 : Nat → Int32) (mN_90 : Nat → Int32) (mfr_90 : Int32) (H : Heap) (locs : List Loc) (ls : Array Slot), va_P (dC, dI) vwCl (RSw cI cZ b0 bR bI bC bY bZ bF bL bN bX bT mcdf_90 mwd men mR_90 mI_90 mC_90 mY_90 mZ_90 mF_90 mmd_90 mhi_90 mL_90 mN_90 mfr_90 mXf_90 mTf_90 mctf_90 mtkf_90) H → va_D A (RSw cI cZ b0 bR bI bC bY bZ bF bL bN bX bT mcdf_90 mwd men mR_90 mI_90 mC_90 mY_90 mZ_90 mF_90 mmd_90 mhi_90 mL_90 mN_90 mfr_90 mXf_90 mTf_90 mctf_90 mtkf_90) → va_S A s.heap H locs → lv_has ls 9 [(0, .ref b0), (1, .int y1_90), (2, .int y2_90), (3, .int y3_90), (4, .int y4_90), (5, .int x5_90), (6, .int y6_90), (7, .int x7_90)] → wqR_chain_90 mwd men y1_90 y2_90 y3_90 y4_90 y6_90 mcdf_90 mXf_90 mTf_90 mctf_90 mtkf_90 post kx n x5_90 x7_90 mR_90 mI_90 mC_90 mY_90 mZ_90 mF_90 mmd_90 mhi_90 mL_90 mN_90 mfr_90 → W p l e (headSpec ws_R_chain ({ frames := 4, cells := 0, slots := 0, locals := 85 })).room s m ([.ref b0, .int a1, .int a2, .int a3, .int a4] : List Value).toArray below meth c H locs (0) (0) (MQ below (va_Qi (fun (r : Int32) (u : Int32 × (Nat → Int32) × (Nat → Int32) × (Nat → Int32) × (Nat → Int32) × (Nat → Int32) × (Nat → Int32) × Int32 × Int32 × (Nat → Int32) × (Nat → Int32) × Int32 × (Nat → Int32) × (Nat → Int32) × Int32 × Int32) => post r u.1 u.2.1 u.2.2.1 u.2.2.2.1 u.2.2.2.2.1 u.2.2.2.2.2.1 u.2.2.2.2.2.2.1 u.2.2.2.2.2.2.2.1 u.2.2.2.2.2.2.2.2.1 u.2.2.2.2.2.2.2.2.2.1 u.2.2.2.2.2.2.2.2.2.2.1 u.2.2.2.2.2.2.2.2.2.2.2.1 u.2.2.2.2.2.2.2.2.2.2.2.2.1 u.2.2.2.2.2.2.2.2.2.2.2.2.2.1 u.2.2.2.2.2.2.2.2.2.2.2.2.2.2.1 u.2.2.2.2.2.2.2.2.2.2.2.2.2.2.2) (rw_B (dC, dI) vwCl [(cI, .int), (cZ, .boolean)] A (fun u : Int32 × (Nat → Int32) × (Nat → Int32) × (Nat → Int32) × (Nat → Int32) × (Nat → Int32) × (Nat → Int32) × Int32 × Int32 × (Nat → Int32) × (Nat → Int32) × Int32 × (Nat → Int32) × (Nat → Int32) × Int32 × Int32 => RSw cI cZ b0 bR bI bC bY bZ bF bL bN bX bT u.1 mwd men u.2.1 u.2.2.1 u.2.2.2.1 u.2.2.2.2.1 u.2.2.2.2.2.1 u.2.2.2.2.2.2.1 u.2.2.2.2.2.2.2.1 u.2.2.2.2.2.2.2.2.1 u.2.2.2.2.2.2.2.2.2.1 u.2.2.2.2.2.2.2.2.2.2.1 u.2.2.2.2.2.2.2.2.2.2.2.1 u.2.2.2.2.2.2.2.2.2.2.2.2.1 u.2.2.2.2.2.2.2.2.2.2.2.2.2.1 u.2.2.2.2.2.2.2.2.2.2.2.2.2.2.1 u.2.2.2.2.2.2.2.2.2.2.2.2.2.2.2)) A) ([.ref b0, .int a1, .int a2, .int a3, .int a4] : List Value).toArray s 0 0 A) (F0 m 90 ls []) := by
    intro y1_90 y2_90 y3_90 y4_90 y6_90 mcdf_90 mXf_90 mTf_90 mctf_90 mtkf_90 kx K n
    induction n with
    | zero => intro x5_90 x7_90 mR_90 mI_90 mC_90 mY_90 mZ_90 mF_90 mmd_90 mhi_90 mL_90 mN_90 mfr_90 H locs ls hP hD hS hl h; exact h.elim
    | succ n ih =>
      intro x5_90 x7_90 mR_90 mI_90 mC_90 mY_90 mZ_90 mF_90 mmd_90 mhi_90 mL_90 mN_90 mfr_90 H locs ls hP hD hS hl h
      refine lv_iload hx hb d_R_chain_90 (lv_at hl 7 rfl) ?_
      refine lv_iload hx hb d_R_chain_92 (lv_at hl 4 rfl) ?_
      refine lv_icmp_ge (tgt := 172) hx hb d_R_chain_94 (by decide) (fun c_94 => ?_) (fun c_94 => ?_)
      · have h := h.1 c_94
        exact K x5_90 x7_90 mR_90 mI_90 mC_90 mY_90 mZ_90 mF_90 mmd_90 mhi_90 mL_90 mN_90 mfr_90 H locs ls hP hD hS (lv_sub hl [0, 1, 2, 3, 4, 5, 6, 7] rfl) h
      · have h := h.2 c_94
        refine lv_iload hx hb d_R_chain_97 (lv_at hl 7 rfl) ?_
        refine lv_iload hx hb d_R_chain_99 (lv_at hl 6 rfl) ?_
        refine lv_icmp_ge (tgt := 172) hx hb d_R_chain_101 (by decide) (fun c_101 => ?_) (fun c_101 => ?_)
        · have h := h.1 c_101
          exact K x5_90 x7_90 mR_90 mI_90 mC_90 mY_90 mZ_90 mF_90 mmd_90 mhi_90 mL_90 mN_90 mfr_90 H locs ls hP hD hS (lv_sub hl [0, 1, 2, 3, 4, 5, 6, 7] rfl) h
        · have h := h.2 c_101
          refine lv_iload hx hb d_R_chain_104 (lv_at hl 5 rfl) ?_
          refine lv_iconst (v := (4 : Int32)) hx hb d_R_chain_106 (by decide) ?_
          refine lv_iload_n hx hb d_R_chain_107 rfl (lv_at hl 3 rfl) ?_
          refine lv_iadd hx hb d_R_chain_108 ?_
          refine lv_icmp_lt (tgt := 172) hx hb d_R_chain_109 (by decide) (fun c_109 => ?_) (fun c_109 => ?_)
          · have h := h.1 c_109
            exact K x5_90 x7_90 mR_90 mI_90 mC_90 mY_90 mZ_90 mF_90 mmd_90 mhi_90 mL_90 mN_90 mfr_90 H locs ls hP hD hS (lv_sub hl [0, 1, 2, 3, 4, 5, 6, 7] rfl) h
          · have h := h.2 c_109
            refine lv_aload_n hx hb d_R_chain_112 rfl (lv_at hl 0 rfl) ?_
            refine lv_aload_n hx hb d_R_chain_113 rfl (lv_at hl 0 rfl) ?_
            refine va_get (D := (dC, dI)) (ci := 2) (v := .ref bR) (C := R_R) (T := T_R) (N := 18) hx hb hw in_R hown hK hP 0 rfl rfl 3 (by decide) (hw _ wd_619) (fun _ h9 => h9) rfl d_R_chain_114 ?_
            refine lv_iload_n hx hb d_R_chain_117 rfl (lv_at hl 2 rfl) ?_
            refine va_iald hx hb hK hP 1 0 rfl rfl h.1 d_R_chain_118 ?_
            have h := h.2
            refine lv_iload_n hx hb d_R_chain_119 rfl (lv_at hl 3 rfl) ?_
            refine lv_iconst (v := (0 : Int32)) hx hb d_R_chain_120 (by decide) ?_
            have hFc := va_free (wc := RSw cI cZ b0 bR bI bC bY bZ bF bL bN bX bT mcdf_90 mwd men mR_90 mI_90 mC_90 mY_90 mZ_90 mF_90 mmd_90 mhi_90 mL_90 mN_90 mfr_90 mXf_90 mTf_90 mctf_90 mtkf_90) hD hS hA [0, 1, 2, 3, 4, 5, 6, 7, 8, 9, 10] rfl
            refine va_calli (va_runV (As := [.int (mR_90 y2_90.toNatClampNeg), .int y3_90, .int (0 : Int32)]) (rest := []) ⟨hx, hb, hml, hown, hw⟩ (mR_add l dC dI cI cZ b0 bR bI bC bY bZ bF bL bN bX bT H.size mcdf_90 mwd men mR_90 mI_90 mC_90 mY_90 mZ_90 mF_90 mmd_90 mhi_90 mL_90 mN_90 mfr_90 mXf_90 mTf_90 mctf_90 mtkf_90 (mR_90 y2_90.toNatClampNeg) y3_90 (0 : Int32) _ h) (cwV 3 hw g_R_107 rfl rfl rfl (by decide +kernel) ⟨Nat.le_of_ble_eq_true rfl, Nat.le_of_ble_eq_true rfl⟩) (rw_PV (ci := 2) (q0 := 0) hK hP hD rfl rfl) rfl rfl hl.1 rfl (lv_room (Nat.le_of_ble_eq_true rfl)) d_R_chain_121 ⟨Nat.le_of_ble_eq_true rfl, Nat.le_of_ble_eq_true rfl⟩) hS (fun q _ h => hFc q h) hFc (fun r121 u t H locs ht hvm h hB hz1 hk1 hS => ?_)
            obtain ⟨mI_121, mC_121, mY_121, mZ_121, mF_121, mmd_121, mhi_121, mL_121, mN_121, mfr_121⟩ := u
            obtain ⟨hP, hK1, hD1⟩ := hB
            rw [ht] at hP
            have hD := hD1.weaken (fun _ _ _ q => hFc _ q)
            clear hFc hD1 hK1
            try dsimp only at h
            have hP : va_P (dC, dI) vwCl (RSw cI cZ b0 bR bI bC bY bZ bF bL bN bX bT mcdf_90 mwd men mR_90 mI_121 mC_121 mY_121 mZ_121 mF_121 mmd_121 mhi_121 mL_121 mN_121 mfr_121 mXf_90 mTf_90 mctf_90 mtkf_90) H := hP
            have hD : va_D A (RSw cI cZ b0 bR bI bC bY bZ bF bL bN bX bT mcdf_90 mwd men mR_90 mI_121 mC_121 mY_121 mZ_121 mF_121 mmd_121 mhi_121 mL_121 mN_121 mfr_121 mXf_90 mTf_90 mctf_90 mtkf_90) := hD
            refine lv_istore (lv' := [(8, .int r121), (0, .ref b0), (1, .int y1_90), (2, .int y2_90), (3, .int y3_90), (4, .int y4_90), (5, .int x5_90), (6, .int y6_90), (7, .int x7_90)]) hx hb d_R_chain_124 hl (by decide) rfl (fun ls hl => ?_)
            refine lv_aload_n hx hb d_R_chain_126 rfl (lv_at hl 1 rfl) ?_
            refine va_get (D := (dC, dI)) (ci := 2) (v := .ref bL) (C := R_R) (T := T_R) (N := 18) hx hb hw in_R hown hK hP 0 rfl rfl 11 (by decide) (hw _ wd_627) (fun _ h9 => h9) rfl d_R_chain_127 ?_
            refine lv_aload_n hx hb d_R_chain_130 rfl (lv_at hl 1 rfl) ?_
            refine va_get (D := (dC, dI)) (ci := 2) (v := .ref bF) (C := R_R) (T := T_R) (N := 18) hx hb hw in_R hown hK hP 0 rfl rfl 8 (by decide) (hw _ wd_624) (fun _ h9 => h9) rfl d_R_chain_131 ?_
            refine lv_iload hx hb d_R_chain_134 (lv_at hl 0 rfl) ?_
            refine va_iald hx hb hK hP 6 0 rfl rfl h.1 d_R_chain_136 ?_
            have h := h.2
            refine lv_aload_n hx hb d_R_chain_137 rfl (lv_at hl 1 rfl) ?_
            refine va_get (D := (dC, dI)) (ci := 2) (v := .ref bR) (C := R_R) (T := T_R) (N := 18) hx hb hw in_R hown hK hP 0 rfl rfl 3 (by decide) (hw _ wd_619) (fun _ h9 => h9) rfl d_R_chain_138 ?_
            refine lv_iload_n hx hb d_R_chain_141 rfl (lv_at hl 2 rfl) ?_
            refine va_iald hx hb hK hP 1 0 rfl rfl h.1 d_R_chain_142 ?_
            have h := h.2
            refine va_iast hx hb hK hP hD hS 7 0 rfl rfl h.1 d_R_chain_143 (fun H locs hP hD hS => ?_)
            have hP : va_P (dC, dI) vwCl (RSw cI cZ b0 bR bI bC bY bZ bF bL bN bX bT mcdf_90 mwd men mR_90 mI_121 mC_121 mY_121 mZ_121 mF_121 mmd_121 mhi_121 (upd mL_121 (mF_121 r121.toNatClampNeg).toNatClampNeg (mR_90 y1_90.toNatClampNeg)) mN_121 mfr_121 mXf_90 mTf_90 mctf_90 mtkf_90) H := hP
            have hD : va_D A (RSw cI cZ b0 bR bI bC bY bZ bF bL bN bX bT mcdf_90 mwd men mR_90 mI_121 mC_121 mY_121 mZ_121 mF_121 mmd_121 mhi_121 (upd mL_121 (mF_121 r121.toNatClampNeg).toNatClampNeg (mR_90 y1_90.toNatClampNeg)) mN_121 mfr_121 mXf_90 mTf_90 mctf_90 mtkf_90) := hD
            have h := h.2
            refine lv_aload_n hx hb d_R_chain_144 rfl (lv_at hl 1 rfl) ?_
            refine va_get (D := (dC, dI)) (ci := 2) (v := .ref bR) (C := R_R) (T := T_R) (N := 18) hx hb hw in_R hown hK hP 0 rfl rfl 3 (by decide) (hw _ wd_619) (fun _ h9 => h9) rfl d_R_chain_145 ?_
            refine lv_iload_n hx hb d_R_chain_148 rfl (lv_at hl 2 rfl) ?_
            refine lv_iload hx hb d_R_chain_149 (lv_at hl 0 rfl) ?_
            refine rq_calli (W.runS (As := [.int r121]) (rest := [.int y1_90, .ref bR]) ⟨hx, hb, hml, hown, hw⟩ (mR_valueOf l r121 _ h) (va_cwS 1 hw g_R_111 rfl rfl rfl (by decide +kernel) ⟨Nat.le_of_ble_eq_true rfl, Nat.le_of_ble_eq_true rfl⟩) preEq rfl rfl hl.1 rfl (lv_room (Nat.le_of_ble_eq_true rfl)) d_R_chain_151 ⟨Nat.le_of_ble_eq_true rfl, Nat.le_of_ble_eq_true rfl⟩) (fun r151 h => ?_)
            refine va_iast hx hb hK hP hD hS 1 0 rfl rfl h.1 d_R_chain_154 (fun H locs hP hD hS => ?_)
            have hP : va_P (dC, dI) vwCl (RSw cI cZ b0 bR bI bC bY bZ bF bL bN bX bT mcdf_90 mwd men (upd mR_90 y1_90.toNatClampNeg r151) mI_121 mC_121 mY_121 mZ_121 mF_121 mmd_121 mhi_121 (upd mL_121 (mF_121 r121.toNatClampNeg).toNatClampNeg (mR_90 y1_90.toNatClampNeg)) mN_121 mfr_121 mXf_90 mTf_90 mctf_90 mtkf_90) H := hP
            have hD : va_D A (RSw cI cZ b0 bR bI bC bY bZ bF bL bN bX bT mcdf_90 mwd men (upd mR_90 y1_90.toNatClampNeg r151) mI_121 mC_121 mY_121 mZ_121 mF_121 mmd_121 mhi_121 (upd mL_121 (mF_121 r121.toNatClampNeg).toNatClampNeg (mR_90 y1_90.toNatClampNeg)) mN_121 mfr_121 mXf_90 mTf_90 mctf_90 mtkf_90) := hD
            have h := h.2
            refine lv_iload hx hb d_R_chain_155 (lv_at hl 6 rfl) ?_
            refine lv_iconst (v := (4 : Int32)) hx hb d_R_chain_157 (by decide) ?_
            refine lv_isub hx hb d_R_chain_158 ?_
            refine lv_iload_n hx hb d_R_chain_159 rfl (lv_at hl 4 rfl) ?_
            refine lv_isub hx hb d_R_chain_160 ?_
            refine lv_istore (lv' := [(5, .int ((x5_90 - (4 : Int32)) - y3_90)), (8, .int r121), (0, .ref b0), (1, .int y1_90), (2, .int y2_90), (3, .int y3_90), (4, .int y4_90), (6, .int y6_90), (7, .int x7_90)]) hx hb d_R_chain_161 hl (by decide) rfl (fun ls hl => ?_)
            refine lv_iload hx hb d_R_chain_163 (lv_at hl 8 rfl) ?_
            refine lv_iconst (v := (1 : Int32)) hx hb d_R_chain_165 (by decide) ?_
            refine lv_iadd hx hb d_R_chain_166 ?_
            refine lv_istore (lv' := [(7, .int (x7_90 + (1 : Int32))), (5, .int ((x5_90 - (4 : Int32)) - y3_90)), (8, .int r121), (0, .ref b0), (1, .int y1_90), (2, .int y2_90), (3, .int y3_90), (4, .int y4_90), (6, .int y6_90)]) hx hb d_R_chain_167 hl (by decide) rfl (fun ls hl => ?_)
            refine lv_goto (tgt := 90) hx hb d_R_chain_169 (by decide) ?_
            exact ih ((x5_90 - (4 : Int32)) - y3_90) (x7_90 + (1 : Int32)) (upd mR_90 y1_90.toNatClampNeg r151) mI_121 mC_121 mY_121 mZ_121 mF_121 mmd_121 mhi_121 (upd mL_121 (mF_121 r121.toNatClampNeg).toNatClampNeg (mR_90 y1_90.toNatClampNeg)) mN_121 mfr_121 H locs ls hP hD hS (lv_sub hl [3, 4, 5, 6, 7, 1, 8, 0] rfl) h
  have lp_48 : ∀ (y1_48 : Int32) (y2_48 : Int32) (y3_48 : Int32) (y4_48 : Int32) (mcd_48 : Int32) (mR_48 : Nat → Int32) (mI_48 : Nat → Int32) (mC_48 : Nat → Int32) (mY_48 : Nat → Int32) (mZ_48 : Nat → Int32) (mF_48 : Nat → Int32) (mmd_48 : Int32) (mhi_48 : Int32) (mL_48 : Nat → Int32) (mN_48 : Nat → Int32) (mfr_48 : Int32) (mX_48 : Nat → Int32) (mT_48 : Nat → Int32) (mct_48 : Int32) (mtk_48 : Int32) (H : Heap) (locs : List Loc) (ls : Array Slot), va_P (dC, dI) vwCl (RSw cI cZ b0 bR bI bC bY bZ bF bL bN bX bT mcd_48 mwd men mR_48 mI_48 mC_48 mY_48 mZ_48 mF_48 mmd_48 mhi_48 mL_48 mN_48 mfr_48 mX_48 mT_48 mct_48 mtk_48) H → va_D A (RSw cI cZ b0 bR bI bC bY bZ bF bL bN bX bT mcd_48 mwd men mR_48 mI_48 mC_48 mY_48 mZ_48 mF_48 mmd_48 mhi_48 mL_48 mN_48 mfr_48 mX_48 mT_48 mct_48 mtk_48) → va_S A s.heap H locs → lv_has ls 9 [(0, .ref b0), (1, .int y1_48), (2, .int y2_48), (3, .int y3_48), (4, .int y4_48)] → wqR_chain_48 mwd men y1_48 y2_48 y3_48 y4_48 mcd_48 mR_48 mI_48 mC_48 mY_48 mZ_48 mF_48 mmd_48 mhi_48 mL_48 mN_48 mfr_48 mX_48 mT_48 mct_48 mtk_48 post → W p l e (headSpec ws_R_chain ({ frames := 4, cells := 0, slots := 0, locals := 85 })).room s m ([.ref b0, .int a1, .int a2, .int a3, .int a4] : List Value).toArray below meth c H locs (0) (0) (MQ below (va_Qi (fun (r : Int32) (u : Int32 × (Nat → Int32) × (Nat → Int32) × (Nat → Int32) × (Nat → Int32) × (Nat → Int32) × (Nat → Int32) × Int32 × Int32 × (Nat → Int32) × (Nat → Int32) × Int32 × (Nat → Int32) × (Nat → Int32) × Int32 × Int32) => post r u.1 u.2.1 u.2.2.1 u.2.2.2.1 u.2.2.2.2.1 u.2.2.2.2.2.1 u.2.2.2.2.2.2.1 u.2.2.2.2.2.2.2.1 u.2.2.2.2.2.2.2.2.1 u.2.2.2.2.2.2.2.2.2.1 u.2.2.2.2.2.2.2.2.2.2.1 u.2.2.2.2.2.2.2.2.2.2.2.1 u.2.2.2.2.2.2.2.2.2.2.2.2.1 u.2.2.2.2.2.2.2.2.2.2.2.2.2.1 u.2.2.2.2.2.2.2.2.2.2.2.2.2.2.1 u.2.2.2.2.2.2.2.2.2.2.2.2.2.2.2) (rw_B (dC, dI) vwCl [(cI, .int), (cZ, .boolean)] A (fun u : Int32 × (Nat → Int32) × (Nat → Int32) × (Nat → Int32) × (Nat → Int32) × (Nat → Int32) × (Nat → Int32) × Int32 × Int32 × (Nat → Int32) × (Nat → Int32) × Int32 × (Nat → Int32) × (Nat → Int32) × Int32 × Int32 => RSw cI cZ b0 bR bI bC bY bZ bF bL bN bX bT u.1 mwd men u.2.1 u.2.2.1 u.2.2.2.1 u.2.2.2.2.1 u.2.2.2.2.2.1 u.2.2.2.2.2.2.1 u.2.2.2.2.2.2.2.1 u.2.2.2.2.2.2.2.2.1 u.2.2.2.2.2.2.2.2.2.1 u.2.2.2.2.2.2.2.2.2.2.1 u.2.2.2.2.2.2.2.2.2.2.2.1 u.2.2.2.2.2.2.2.2.2.2.2.2.1 u.2.2.2.2.2.2.2.2.2.2.2.2.2.1 u.2.2.2.2.2.2.2.2.2.2.2.2.2.2.1 u.2.2.2.2.2.2.2.2.2.2.2.2.2.2.2)) A) ([.ref b0, .int a1, .int a2, .int a3, .int a4] : List Value).toArray s 0 0 A) (F0 m 48 ls []) := by
    intro y1_48 y2_48 y3_48 y4_48 mcd_48 mR_48 mI_48 mC_48 mY_48 mZ_48 mF_48 mmd_48 mhi_48 mL_48 mN_48 mfr_48 mX_48 mT_48 mct_48 mtk_48 H locs ls hP hD hS hl h
    unfold wqR_chain_48 at h
    refine lv_aload_n hx hb d_R_chain_48 rfl (lv_at hl 0 rfl) ?_
    refine va_get (D := (dC, dI)) (ci := 2) (v := .int mcd_48) (C := R_R) (T := T_R) (N := 18) hx hb hw in_R hown hK hP 0 rfl rfl 0 (by decide) (hw _ wd_616) (fun _ h9 => h9) rfl d_R_chain_49 ?_
    refine lv_if_le (tgt := 57) hx hb d_R_chain_52 (by decide) (fun c_52 => ?_) (fun c_52 => ?_)
    · have h := h.1 c_52
      refine lv_aload_n hx hb d_R_chain_57 rfl (lv_at hl 0 rfl) ?_
      have hFc := va_free (wc := RSw cI cZ b0 bR bI bC bY bZ bF bL bN bX bT mcd_48 mwd men mR_48 mI_48 mC_48 mY_48 mZ_48 mF_48 mmd_48 mhi_48 mL_48 mN_48 mfr_48 mX_48 mT_48 mct_48 mtk_48) hD hS hA [0, 1, 2, 3, 4, 5, 6, 7, 8, 9, 10] rfl
      refine va_callv (va_runV (As := []) (rest := []) ⟨hx, hb, hml, hown, hw⟩ (mR_reach l dC dI cI cZ b0 bR bI bC bY bZ bF bL bN bX bT H.size mcd_48 mwd men mR_48 mI_48 mC_48 mY_48 mZ_48 mF_48 mmd_48 mhi_48 mL_48 mN_48 mfr_48 mX_48 mT_48 mct_48 mtk_48 _ h) (cwV 0 hw g_R_95 rfl rfl rfl (by decide +kernel) ⟨Nat.le_of_ble_eq_true rfl, Nat.le_of_ble_eq_true rfl⟩) (rw_PV (ci := 2) (q0 := 0) hK hP hD rfl rfl) rfl rfl hl.1 rfl (lv_room (Nat.le_of_ble_eq_true rfl)) d_R_chain_58 ⟨Nat.le_of_ble_eq_true rfl, Nat.le_of_ble_eq_true rfl⟩) hS (fun q _ h => hFc q h) hFc (fun u t H locs ht hvm h hB hz1 hk1 hS => ?_)
      obtain ⟨mX_58, mT_58, mct_58, mtk_58⟩ := u
      obtain ⟨hP, hK1, hD1⟩ := hB
      rw [ht] at hP
      have hD := hD1.weaken (fun _ _ _ q => hFc _ q)
      clear hFc hD1 hK1
      try dsimp only at h
      have hP : va_P (dC, dI) vwCl (RSw cI cZ b0 bR bI bC bY bZ bF bL bN bX bT mcd_48 mwd men mR_48 mI_48 mC_48 mY_48 mZ_48 mF_48 mmd_48 mhi_48 mL_48 mN_48 mfr_48 mX_58 mT_58 mct_58 mtk_58) H := hP
      have hD : va_D A (RSw cI cZ b0 bR bI bC bY bZ bF bL bN bX bT mcd_48 mwd men mR_48 mI_48 mC_48 mY_48 mZ_48 mF_48 mmd_48 mhi_48 mL_48 mN_48 mfr_48 mX_58 mT_58 mct_58 mtk_58) := hD
      refine lv_aload_n hx hb d_R_chain_61 rfl (lv_at hl 0 rfl) ?_
      have hFc := va_free (wc := RSw cI cZ b0 bR bI bC bY bZ bF bL bN bX bT mcd_48 mwd men mR_48 mI_48 mC_48 mY_48 mZ_48 mF_48 mmd_48 mhi_48 mL_48 mN_48 mfr_48 mX_58 mT_58 mct_58 mtk_58) hD hS hA [0, 1, 2, 3, 4, 5, 6, 7, 8, 9, 10] rfl
      refine va_callv (va_runV (As := []) (rest := []) ⟨hx, hb, hml, hown, hw⟩ (mR_giveBack l dC dI cI cZ b0 bR bI bC bY bZ bF bL bN bX bT H.size mcd_48 mwd men mR_48 mI_48 mC_48 mY_48 mZ_48 mF_48 mmd_48 mhi_48 mL_48 mN_48 mfr_48 mX_58 mT_58 mct_58 mtk_58 _ h) (cwV 0 hw g_R_98 rfl rfl rfl (by decide +kernel) ⟨Nat.le_of_ble_eq_true rfl, Nat.le_of_ble_eq_true rfl⟩) (rw_PV (ci := 2) (q0 := 0) hK hP hD rfl rfl) rfl rfl hl.1 rfl (lv_room (Nat.le_of_ble_eq_true rfl)) d_R_chain_62 ⟨Nat.le_of_ble_eq_true rfl, Nat.le_of_ble_eq_true rfl⟩) hS (fun q _ h => hFc q h) hFc (fun u t H locs ht hvm h hB hz1 hk1 hS => ?_)
      obtain ⟨mI_62, mhi_62, mN_62, mfr_62⟩ := u
      obtain ⟨hP, hK1, hD1⟩ := hB
      rw [ht] at hP
      have hD := hD1.weaken (fun _ _ _ q => hFc _ q)
      clear hFc hD1 hK1
      try dsimp only at h
      have hP : va_P (dC, dI) vwCl (RSw cI cZ b0 bR bI bC bY bZ bF bL bN bX bT mcd_48 mwd men mR_48 mI_62 mC_48 mY_48 mZ_48 mF_48 mmd_48 mhi_62 mL_48 mN_62 mfr_62 mX_58 mT_58 mct_58 mtk_58) H := hP
      have hD : va_D A (RSw cI cZ b0 bR bI bC bY bZ bF bL bN bX bT mcd_48 mwd men mR_48 mI_62 mC_48 mY_48 mZ_48 mF_48 mmd_48 mhi_62 mL_48 mN_62 mfr_62 mX_58 mT_58 mct_58 mtk_58) := hD
      refine lv_aload_n hx hb d_R_chain_65 rfl (lv_at hl 0 rfl) ?_
      refine va_get (D := (dC, dI)) (ci := 2) (v := .int mwd) (C := R_R) (T := T_R) (N := 18) hx hb hw in_R hown hK hP 0 rfl rfl 1 (by decide) (hw _ wd_617) (fun _ h9 => h9) rfl d_R_chain_66 ?_
      refine lv_aload_n hx hb d_R_chain_69 rfl (lv_at hl 0 rfl) ?_
      refine va_get (D := (dC, dI)) (ci := 2) (v := .int mtk_58) (C := R_R) (T := T_R) (N := 18) hx hb hw in_R hown hK hP 0 rfl rfl 17 (by decide) (hw _ wd_633) (fun _ h9 => h9) rfl d_R_chain_70 ?_
      refine lv_isub hx hb d_R_chain_73 ?_
      refine lv_istore (lv' := [(5, .int (mwd - mtk_58)), (0, .ref b0), (1, .int y1_48), (2, .int y2_48), (3, .int y3_48), (4, .int y4_48)]) hx hb d_R_chain_74 hl (by decide) rfl (fun ls hl => ?_)
      refine lv_aload_n hx hb d_R_chain_76 rfl (lv_at hl 1 rfl) ?_
      refine va_get (D := (dC, dI)) (ci := 2) (v := .int men) (C := R_R) (T := T_R) (N := 18) hx hb hw in_R hown hK hP 0 rfl rfl 2 (by decide) (hw _ wd_618) (fun _ h9 => h9) rfl d_R_chain_77 ?_
      refine lv_aload_n hx hb d_R_chain_80 rfl (lv_at hl 1 rfl) ?_
      refine va_get (D := (dC, dI)) (ci := 2) (v := .int mct_58) (C := R_R) (T := T_R) (N := 18) hx hb hw in_R hown hK hP 0 rfl rfl 16 (by decide) (hw _ wd_632) (fun _ h9 => h9) rfl d_R_chain_81 ?_
      refine lv_isub hx hb d_R_chain_84 ?_
      refine lv_istore (lv' := [(6, .int (men - mct_58)), (5, .int (mwd - mtk_58)), (0, .ref b0), (1, .int y1_48), (2, .int y2_48), (3, .int y3_48), (4, .int y4_48)]) hx hb d_R_chain_85 hl (by decide) rfl (fun ls hl => ?_)
      refine lv_iconst (v := (0 : Int32)) hx hb d_R_chain_87 (by decide) ?_
      refine lv_istore (lv' := [(7, .int (0 : Int32)), (6, .int (men - mct_58)), (5, .int (mwd - mtk_58)), (0, .ref b0), (1, .int y1_48), (2, .int y2_48), (3, .int y3_48), (4, .int y4_48)]) hx hb d_R_chain_88 hl (by decide) rfl (fun ls hl => ?_)
      obtain ⟨n_90, h⟩ := h
      refine lp_90 y1_48 y2_48 y3_48 y4_48 (men - mct_58) mcd_48 mX_58 mT_58 mct_58 mtk_58 _ (fun z5_90 z7_90 mRe_90 mIe_90 mCe_90 mYe_90 mZe_90 mFe_90 mmde_90 mhie_90 mLe_90 mNe_90 mfre_90 H locs ls hP hD hS hl h => ?_) n_90 (mwd - mtk_58) (0 : Int32) mR_48 mI_62 mC_48 mY_48 mZ_48 mF_48 mmd_48 mhi_62 mL_48 mN_62 mfr_62 H locs ls hP hD hS (lv_sub hl [3, 4, 5, 6, 7, 2, 1, 0] rfl) h
      refine lv_iload hx hb d_R_chain_172 (lv_at hl 7 rfl) ?_
      exact W.iret (v := z7_90) hx hb hr9 (fun t ht hW => ⟨⟨_, (mcd_48, mRe_90, mIe_90, mCe_90, mYe_90, mZe_90, mFe_90, mmde_90, mhie_90, mLe_90, mNe_90, mfre_90, mX_58, mT_58, mct_58, mtk_58), rfl, h, by rw [ht]; exact hP, va_K.moved hW.alike hK, hD⟩, hS.F ht⟩) hS.2.2 d_R_chain_174
    · have h := h.2 c_52
      refine lv_iconst (v := (0 : Int32)) hx hb d_R_chain_55 (by decide) ?_
      exact W.iret (v := (0 : Int32)) hx hb hr9 (fun t ht hW => ⟨⟨_, (mcd_48, mR_48, mI_48, mC_48, mY_48, mZ_48, mF_48, mmd_48, mhi_48, mL_48, mN_48, mfr_48, mX_48, mT_48, mct_48, mtk_48), rfl, h, by rw [ht]; exact hP, va_K.moved hW.alike hK, hD⟩, hS.F ht⟩) hS.2.2 d_R_chain_56
  unfold wqR_chain at h
  refine lv_aload_n hx hb d_R_chain_0 rfl (lv_at hl 0 rfl) ?_
  refine lv_iload_n hx hb d_R_chain_1 rfl (lv_at hl 1 rfl) ?_
  refine rq_calli (W.runS (As := [.int a1]) (rest := [.ref b0]) ⟨hx, hb, hml, hown, hw⟩ (mR_isRegister l a1 _ h) (va_cwS 1 hw g_R_52 rfl rfl rfl (by decide +kernel) ⟨Nat.le_of_ble_eq_true rfl, Nat.le_of_ble_eq_true rfl⟩) preEq rfl rfl hl.1 rfl (lv_room (Nat.le_of_ble_eq_true rfl)) d_R_chain_2 ⟨Nat.le_of_ble_eq_true rfl, Nat.le_of_ble_eq_true rfl⟩) (fun r2 h => ?_)
  refine lv_if_eq (tgt := 44) hx hb d_R_chain_5 (by decide) (fun c_5 => ?_) (fun c_5 => ?_)
  · have h := h.1 c_5
    refine lv_iconst (v := (1 : Int32)) hx hb d_R_chain_44 (by decide) ?_
    refine va_put (D := (dC, dI)) (ci := 2) (v := .int (1 : Int32)) (ty := .int) (C := R_R) (T := T_R) (N := 18) hx hb hw in_R ty_R ty_R_ok nm_R hown hK hP hD hS 0 rfl rfl 0 (by decide) (hw _ wd_616) (fun _ h9 => h9) rfl (by decide +kernel) rfl rfl (Nat.le_of_ble_eq_true rfl) d_R_chain_45 (fun H locs hP hD hS => ?_)
    have hP : va_P (dC, dI) vwCl (RSw cI cZ b0 bR bI bC bY bZ bF bL bN bX bT (1 : Int32) mwd men mR mI mC mY mZ mF mmd mhi mL mN mfr mX mT mct mtk) H := hP
    have hD : va_D A (RSw cI cZ b0 bR bI bC bY bZ bF bL bN bX bT (1 : Int32) mwd men mR mI mC mY mZ mF mmd mhi mL mN mfr mX mT mct mtk) := hD
    exact lp_48 a1 a2 a3 a4 (1 : Int32) mR mI mC mY mZ mF mmd mhi mL mN mfr mX mT mct mtk H locs ls hP hD hS (lv_sub hl [0, 1, 2, 3, 4] rfl) h
  · have h := h.2 c_5
    refine lv_iload_n hx hb d_R_chain_8 rfl (lv_at hl 2 rfl) ?_
    refine rq_calli (W.runS (As := [.int a2]) (rest := [.ref b0]) ⟨hx, hb, hml, hown, hw⟩ (mR_isRegister l a2 _ h) (va_cwS 1 hw g_R_52 rfl rfl rfl (by decide +kernel) ⟨Nat.le_of_ble_eq_true rfl, Nat.le_of_ble_eq_true rfl⟩) preEq rfl rfl hl.1 rfl (lv_room (Nat.le_of_ble_eq_true rfl)) d_R_chain_9 ⟨Nat.le_of_ble_eq_true rfl, Nat.le_of_ble_eq_true rfl⟩) (fun r9 h => ?_)
    refine lv_if_eq (tgt := 44) hx hb d_R_chain_12 (by decide) (fun c_12 => ?_) (fun c_12 => ?_)
    · have h := h.1 c_12
      refine lv_iconst (v := (1 : Int32)) hx hb d_R_chain_44 (by decide) ?_
      refine va_put (D := (dC, dI)) (ci := 2) (v := .int (1 : Int32)) (ty := .int) (C := R_R) (T := T_R) (N := 18) hx hb hw in_R ty_R ty_R_ok nm_R hown hK hP hD hS 0 rfl rfl 0 (by decide) (hw _ wd_616) (fun _ h9 => h9) rfl (by decide +kernel) rfl rfl (Nat.le_of_ble_eq_true rfl) d_R_chain_45 (fun H locs hP hD hS => ?_)
      have hP : va_P (dC, dI) vwCl (RSw cI cZ b0 bR bI bC bY bZ bF bL bN bX bT (1 : Int32) mwd men mR mI mC mY mZ mF mmd mhi mL mN mfr mX mT mct mtk) H := hP
      have hD : va_D A (RSw cI cZ b0 bR bI bC bY bZ bF bL bN bX bT (1 : Int32) mwd men mR mI mC mY mZ mF mmd mhi mL mN mfr mX mT mct mtk) := hD
      exact lp_48 a1 a2 a3 a4 (1 : Int32) mR mI mC mY mZ mF mmd mhi mL mN mfr mX mT mct mtk H locs ls hP hD hS (lv_sub hl [0, 1, 2, 3, 4] rfl) h
    · have h := h.2 c_12
      refine lv_iload hx hb d_R_chain_15 (lv_at hl 4 rfl) ?_
      refine lv_iconst (v := (1 : Int32)) hx hb d_R_chain_17 (by decide) ?_
      refine lv_icmp_lt (tgt := 44) hx hb d_R_chain_18 (by decide) (fun c_18 => ?_) (fun c_18 => ?_)
      · have h := h.1 c_18
        refine lv_iconst (v := (1 : Int32)) hx hb d_R_chain_44 (by decide) ?_
        refine va_put (D := (dC, dI)) (ci := 2) (v := .int (1 : Int32)) (ty := .int) (C := R_R) (T := T_R) (N := 18) hx hb hw in_R ty_R ty_R_ok nm_R hown hK hP hD hS 0 rfl rfl 0 (by decide) (hw _ wd_616) (fun _ h9 => h9) rfl (by decide +kernel) rfl rfl (Nat.le_of_ble_eq_true rfl) d_R_chain_45 (fun H locs hP hD hS => ?_)
        have hP : va_P (dC, dI) vwCl (RSw cI cZ b0 bR bI bC bY bZ bF bL bN bX bT (1 : Int32) mwd men mR mI mC mY mZ mF mmd mhi mL mN mfr mX mT mct mtk) H := hP
        have hD : va_D A (RSw cI cZ b0 bR bI bC bY bZ bF bL bN bX bT (1 : Int32) mwd men mR mI mC mY mZ mF mmd mhi mL mN mfr mX mT mct mtk) := hD
        exact lp_48 a1 a2 a3 a4 (1 : Int32) mR mI mC mY mZ mF mmd mhi mL mN mfr mX mT mct mtk H locs ls hP hD hS (lv_sub hl [0, 1, 2, 3, 4] rfl) h
      · have h := h.2 c_18
        refine lv_iload hx hb d_R_chain_21 (lv_at hl 4 rfl) ?_
        refine lv_sipush (v := (4000 : Int32)) hx hb d_R_chain_23 (by decide) ?_
        refine lv_icmp_gt (tgt := 44) hx hb d_R_chain_26 (by decide) (fun c_26 => ?_) (fun c_26 => ?_)
        · have h := h.1 c_26
          refine lv_iconst (v := (1 : Int32)) hx hb d_R_chain_44 (by decide) ?_
          refine va_put (D := (dC, dI)) (ci := 2) (v := .int (1 : Int32)) (ty := .int) (C := R_R) (T := T_R) (N := 18) hx hb hw in_R ty_R ty_R_ok nm_R hown hK hP hD hS 0 rfl rfl 0 (by decide) (hw _ wd_616) (fun _ h9 => h9) rfl (by decide +kernel) rfl rfl (Nat.le_of_ble_eq_true rfl) d_R_chain_45 (fun H locs hP hD hS => ?_)
          have hP : va_P (dC, dI) vwCl (RSw cI cZ b0 bR bI bC bY bZ bF bL bN bX bT (1 : Int32) mwd men mR mI mC mY mZ mF mmd mhi mL mN mfr mX mT mct mtk) H := hP
          have hD : va_D A (RSw cI cZ b0 bR bI bC bY bZ bF bL bN bX bT (1 : Int32) mwd men mR mI mC mY mZ mF mmd mhi mL mN mfr mX mT mct mtk) := hD
          exact lp_48 a1 a2 a3 a4 (1 : Int32) mR mI mC mY mZ mF mmd mhi mL mN mfr mX mT mct mtk H locs ls hP hD hS (lv_sub hl [0, 1, 2, 3, 4] rfl) h
        · have h := h.2 c_26
          refine lv_iload_n hx hb d_R_chain_29 rfl (lv_at hl 3 rfl) ?_
          refine lv_iconst (v := (1 : Int32)) hx hb d_R_chain_30 (by decide) ?_
          refine lv_icmp_lt (tgt := 44) hx hb d_R_chain_31 (by decide) (fun c_31 => ?_) (fun c_31 => ?_)
          · have h := h.1 c_31
            refine lv_iconst (v := (1 : Int32)) hx hb d_R_chain_44 (by decide) ?_
            refine va_put (D := (dC, dI)) (ci := 2) (v := .int (1 : Int32)) (ty := .int) (C := R_R) (T := T_R) (N := 18) hx hb hw in_R ty_R ty_R_ok nm_R hown hK hP hD hS 0 rfl rfl 0 (by decide) (hw _ wd_616) (fun _ h9 => h9) rfl (by decide +kernel) rfl rfl (Nat.le_of_ble_eq_true rfl) d_R_chain_45 (fun H locs hP hD hS => ?_)
            have hP : va_P (dC, dI) vwCl (RSw cI cZ b0 bR bI bC bY bZ bF bL bN bX bT (1 : Int32) mwd men mR mI mC mY mZ mF mmd mhi mL mN mfr mX mT mct mtk) H := hP
            have hD : va_D A (RSw cI cZ b0 bR bI bC bY bZ bF bL bN bX bT (1 : Int32) mwd men mR mI mC mY mZ mF mmd mhi mL mN mfr mX mT mct mtk) := hD
            exact lp_48 a1 a2 a3 a4 (1 : Int32) mR mI mC mY mZ mF mmd mhi mL mN mfr mX mT mct mtk H locs ls hP hD hS (lv_sub hl [0, 1, 2, 3, 4] rfl) h
          · have h := h.2 c_31
            refine lv_iload_n hx hb d_R_chain_34 rfl (lv_at hl 3 rfl) ?_
            refine lv_bipush (v := (100 : Int32)) hx hb d_R_chain_35 (by decide) ?_
            refine lv_icmp_gt (tgt := 44) hx hb d_R_chain_37 (by decide) (fun c_37 => ?_) (fun c_37 => ?_)
            · have h := h.1 c_37
              refine lv_iconst (v := (1 : Int32)) hx hb d_R_chain_44 (by decide) ?_
              refine va_put (D := (dC, dI)) (ci := 2) (v := .int (1 : Int32)) (ty := .int) (C := R_R) (T := T_R) (N := 18) hx hb hw in_R ty_R ty_R_ok nm_R hown hK hP hD hS 0 rfl rfl 0 (by decide) (hw _ wd_616) (fun _ h9 => h9) rfl (by decide +kernel) rfl rfl (Nat.le_of_ble_eq_true rfl) d_R_chain_45 (fun H locs hP hD hS => ?_)
              have hP : va_P (dC, dI) vwCl (RSw cI cZ b0 bR bI bC bY bZ bF bL bN bX bT (1 : Int32) mwd men mR mI mC mY mZ mF mmd mhi mL mN mfr mX mT mct mtk) H := hP
              have hD : va_D A (RSw cI cZ b0 bR bI bC bY bZ bF bL bN bX bT (1 : Int32) mwd men mR mI mC mY mZ mF mmd mhi mL mN mfr mX mT mct mtk) := hD
              exact lp_48 a1 a2 a3 a4 (1 : Int32) mR mI mC mY mZ mF mmd mhi mL mN mfr mX mT mct mtk H locs ls hP hD hS (lv_sub hl [0, 1, 2, 3, 4] rfl) h
            · have h := h.2 c_37
              refine lv_iconst (v := (0 : Int32)) hx hb d_R_chain_40 (by decide) ?_
              refine lv_goto (tgt := 45) hx hb d_R_chain_41 (by decide) ?_
              refine va_put (D := (dC, dI)) (ci := 2) (v := .int (0 : Int32)) (ty := .int) (C := R_R) (T := T_R) (N := 18) hx hb hw in_R ty_R ty_R_ok nm_R hown hK hP hD hS 0 rfl rfl 0 (by decide) (hw _ wd_616) (fun _ h9 => h9) rfl (by decide +kernel) rfl rfl (Nat.le_of_ble_eq_true rfl) d_R_chain_45 (fun H locs hP hD hS => ?_)
              have hP : va_P (dC, dI) vwCl (RSw cI cZ b0 bR bI bC bY bZ bF bL bN bX bT (0 : Int32) mwd men mR mI mC mY mZ mF mmd mhi mL mN mfr mX mT mct mtk) H := hP
              have hD : va_D A (RSw cI cZ b0 bR bI bC bY bZ bF bL bN bX bT (0 : Int32) mwd men mR mI mC mY mZ mF mmd mhi mL mN mfr mX mT mct mtk) := hD
              exact lp_48 a1 a2 a3 a4 (0 : Int32) mR mI mC mY mZ mF mmd mhi mL mN mfr mX mT mct mtk H locs ls hP hD hS (lv_sub hl [0, 1, 2, 3, 4] rfl) h
def wqR_get_53 (mY : Nat → Int32) (mZ : Nat → Int32) (mF : Nat → Int32) (mL : Nat → Int32) (mN : Nat → Int32) (y1_53 : Int32) (y2_53 : Int32) (y3_53 : Int32) (y4_53 : Int32) (mcd_53 : Int32) (mR_53 : Nat → Int32) (post : Int32 → (Nat → Int32) → Prop) : Prop :=
  (mcd_53 = 0 → (vp_in y2_53 32 ∧ (wqR_placeOf (mR_53 y2_53.toNatClampNeg) (fun r76 => wqR_cellAt mF mN r76 y3_53 (fun r80 => vp_in r80 65536 ∧ (vp_in y1_53 32 ∧ (post mcd_53 (upd mR_53 y1_53.toNatClampNeg (mL r80.toNatClampNeg))))))))) ∧ (¬ (mcd_53 = 0) → (post mcd_53 mR_53))
def wqR_get_22 (mY : Nat → Int32) (mZ : Nat → Int32) (mF : Nat → Int32) (mL : Nat → Int32) (mN : Nat → Int32) (y1_22 : Int32) (y2_22 : Int32) (y3_22 : Int32) (y4_22 : Int32) (mcd_22 : Int32) (mR_22 : Nat → Int32) (post : Int32 → (Nat → Int32) → Prop) : Prop :=
  (y4_22 = 0 → (wqR_get_53 mY mZ mF mL mN y1_22 y2_22 y3_22 y4_22 (1 : Int32) mR_22 post)) ∧ (¬ (y4_22 = 0) → ((y3_22 < 0 → (wqR_get_53 mY mZ mF mL mN y1_22 y2_22 y3_22 y4_22 (2 : Int32) mR_22 post)) ∧ (¬ (y3_22 < 0) → (wqR_sizeOf mR_22 mZ y2_22 (fun r39 => (y3_22 < r39 → (wqR_get_53 mY mZ mF mL mN y1_22 y2_22 y3_22 y4_22 (0 : Int32) mR_22 post)) ∧ (¬ (y3_22 < r39) → (wqR_get_53 mY mZ mF mL mN y1_22 y2_22 y3_22 y4_22 (2 : Int32) mR_22 post)))))))
def wqR_get_19 (mY : Nat → Int32) (mZ : Nat → Int32) (mF : Nat → Int32) (mL : Nat → Int32) (mN : Nat → Int32) (y1_19 : Int32) (y2_19 : Int32) (y3_19 : Int32) (mcd_19 : Int32) (mR_19 : Nat → Int32) (post : Int32 → (Nat → Int32) → Prop) : Prop :=
  wqR_get_22 mY mZ mF mL mN y1_19 y2_19 y3_19 (0 : Int32) mcd_19 mR_19 post
def wqR_get (mcd : Int32) (mR : Nat → Int32) (mY : Nat → Int32) (mZ : Nat → Int32) (mF : Nat → Int32) (mL : Nat → Int32) (mN : Nat → Int32) (a1 : Int32) (a2 : Int32) (a3 : Int32) (post : Int32 → (Nat → Int32) → Prop) : Prop :=
  wqR_isRegister a1 (fun r1 => (r1 = 0 → (wqR_get_19 mY mZ mF mL mN a1 a2 a3 mcd mR post)) ∧ (¬ (r1 = 0) → (wqR_hasSlots mR mY a2 (fun r9 => (r9 = 0 → (wqR_get_19 mY mZ mF mL mN a1 a2 a3 mcd mR post)) ∧ (¬ (r9 = 0) → (wqR_get_22 mY mZ mF mL mN a1 a2 a3 (1 : Int32) mcd mR post))))))
set_option maxHeartbeats 4000000 in
set_option maxRecDepth 100000 in
theorem mR_get (l : Launch) (dC : Nat → ClassId) (dI : Nat → Nat → Nat) (cI : ClassId) (cZ : ClassId) (b0 : Nat) (bR : Nat) (bI : Nat) (bC : Nat) (bY : Nat) (bZ : Nat) (bF : Nat) (bL : Nat) (bN : Nat) (bX : Nat) (bT : Nat) (sz : Nat) (mcd : Int32) (mwd : Int32) (men : Int32) (mR : Nat → Int32) (mI : Nat → Int32) (mC : Nat → Int32) (mY : Nat → Int32) (mZ : Nat → Int32) (mF : Nat → Int32) (mmd : Int32) (mhi : Int32) (mL : Nat → Int32) (mN : Nat → Int32) (mfr : Int32) (mX : Nat → Int32) (mT : Nat → Int32) (mct : Int32) (mtk : Int32) (a1 : Int32) (a2 : Int32) (a3 : Int32) (post : Int32 → (Nat → Int32) → Prop) (h : wqR_get mcd mR mY mZ mF mL mN a1 a2 a3 post) : Met l y_R_get ws_R_get ({ frames := 3, cells := 0, slots := 0, locals := 62 }) (rw_P (dC, dI) vwCl (RSw cI cZ b0 bR bI bC bY bZ bF bL bN bX bT mcd mwd men mR mI mC mY mZ mF mmd mhi mL mN mfr mX mT mct mtk) [(cI, .int), (cZ, .boolean)] sz [.ref b0, .int a1, .int a2, .int a3]) (va_Qv (fun u : Int32 × (Nat → Int32) => post u.1 u.2) (rw_B (dC, dI) vwCl [(cI, .int), (cZ, .boolean)] (va_A (RSw cI cZ b0 bR bI bC bY bZ bF bL bN bX bT mcd mwd men mR mI mC mY mZ mF mmd mhi mL mN mfr mX mT mct mtk) sz) (fun u : Int32 × (Nat → Int32) => RSw cI cZ b0 bR bI bC bY bZ bF bL bN bX bT u.1 mwd men u.2 mI mC mY mZ mF mmd mhi mL mN mfr mX mT mct mtk)) (va_A (RSw cI cZ b0 bR bI bC bY bZ bF bL bN bX bT mcd mwd men mR mI mC mY mZ mF mmd mhi mL mN mfr mX mT mct mtk) sz)) 0 0 (va_A (RSw cI cZ b0 bR bI bC bY bZ bF bL bN bX bT mcd mwd men mR mI mC mY mZ mF mmd mhi mL mN mfr mX mT mct mtk) sz) := by
  refine Met.ofW (cc := c_R_get) (maxL := 5) (ret := none) (by decide) rfl ?_
  intro p e s m args below meth c s₁ B hml hv
  obtain ⟨rfl, hsz, hP, hK, hD0⟩ := hv
  have hx := B.exec
  have hb := B.bytes
  have hr9 := B.returns
  have hts := atoms_spec (ws := ws_R_get) B.pre
  have hw : ∀ w ∈ WB_, w.before _ s = true := fun w h => hts w (List.mem_cons_of_mem _ h)
  have hown : s.vm.findClass R_R = some m.cls := findClass_of_methodNamed B.named
  have hlocks := B.notSynchronized
  subst hsz
  have hD := hD0.self (sz := s.heap.size)
  generalize hAe : va_A (RSw cI cZ b0 bR bI bC bY bZ bF bL bN bX bT mcd mwd men mR mI mC mY mZ mF mmd mhi mL mN mfr mX mT mct mtk) s.heap.size = A at hD ⊢
  have hA : ∀ q : Nat, s.heap.size ≤ q → A q := fun q h => by rw [← hAe]; exact Or.inr h
  have hS : va_S A s.heap s.heap [] := va_S.rf
  have hl := lv_entry ([.ref b0, .int a1, .int a2, .int a3]) (n := 5) (Nat.le_of_ble_eq_true rfl)
  rw [lg_entry_eq]
  generalize (lg_sl ([.ref b0, .int a1, .int a2, .int a3]) ++ List.replicate (5 - (lg_sl ([.ref b0, .int a1, .int a2, .int a3])).length) Slot.unset).toArray = ls at hl ⊢
  have hl : lv_has ls 5 [(0, .ref b0), (1, .int a1), (2, .int a2), (3, .int a3)] := hl
  have lp_53 : ∀ (y1_53 : Int32) (y2_53 : Int32) (y3_53 : Int32) (y4_53 : Int32) (mcd_53 : Int32) (mR_53 : Nat → Int32) (H : Heap) (locs : List Loc) (ls : Array Slot), va_P (dC, dI) vwCl (RSw cI cZ b0 bR bI bC bY bZ bF bL bN bX bT mcd_53 mwd men mR_53 mI mC mY mZ mF mmd mhi mL mN mfr mX mT mct mtk) H → va_D A (RSw cI cZ b0 bR bI bC bY bZ bF bL bN bX bT mcd_53 mwd men mR_53 mI mC mY mZ mF mmd mhi mL mN mfr mX mT mct mtk) → va_S A s.heap H locs → lv_has ls 5 [(0, .ref b0), (1, .int y1_53), (2, .int y2_53), (3, .int y3_53), (4, .int y4_53)] → wqR_get_53 mY mZ mF mL mN y1_53 y2_53 y3_53 y4_53 mcd_53 mR_53 post → W p l e (headSpec ws_R_get ({ frames := 3, cells := 0, slots := 0, locals := 62 })).room s m ([.ref b0, .int a1, .int a2, .int a3] : List Value).toArray below meth c H locs (0) (0) (MQ below (va_Qv (fun u : Int32 × (Nat → Int32) => post u.1 u.2) (rw_B (dC, dI) vwCl [(cI, .int), (cZ, .boolean)] A (fun u : Int32 × (Nat → Int32) => RSw cI cZ b0 bR bI bC bY bZ bF bL bN bX bT u.1 mwd men u.2 mI mC mY mZ mF mmd mhi mL mN mfr mX mT mct mtk)) A) ([.ref b0, .int a1, .int a2, .int a3] : List Value).toArray s 0 0 A) (F0 m 53 ls []) := by
    intro y1_53 y2_53 y3_53 y4_53 mcd_53 mR_53 H locs ls hP hD hS hl h
    unfold wqR_get_53 at h
    refine lv_aload_n hx hb d_R_get_53 rfl (lv_at hl 0 rfl) ?_
    refine va_get (D := (dC, dI)) (ci := 2) (v := .int mcd_53) (C := R_R) (T := T_R) (N := 18) hx hb hw in_R hown hK hP 0 rfl rfl 0 (by decide) (hw _ wd_616) (fun _ h9 => h9) rfl d_R_get_54 ?_
    refine lv_if_ne (tgt := 85) hx hb d_R_get_57 (by decide) (fun c_57 => ?_) (fun c_57 => ?_)
    · have h := h.2 c_57
      exact W.vret hx hb hr9 (fun t ht hW => ⟨⟨(mcd_53, mR_53), rfl, h, by rw [ht]; exact hP, va_K.moved hW.alike hK, hD⟩, hS.F ht⟩) hS.2.2 d_R_get_85
    · have h := h.1 c_57
      refine lv_aload_n hx hb d_R_get_60 rfl (lv_at hl 0 rfl) ?_
      refine va_get (D := (dC, dI)) (ci := 2) (v := .ref bR) (C := R_R) (T := T_R) (N := 18) hx hb hw in_R hown hK hP 0 rfl rfl 3 (by decide) (hw _ wd_619) (fun _ h9 => h9) rfl d_R_get_61 ?_
      refine lv_iload_n hx hb d_R_get_64 rfl (lv_at hl 1 rfl) ?_
      refine lv_aload_n hx hb d_R_get_65 rfl (lv_at hl 0 rfl) ?_
      refine va_get (D := (dC, dI)) (ci := 2) (v := .ref bL) (C := R_R) (T := T_R) (N := 18) hx hb hw in_R hown hK hP 0 rfl rfl 11 (by decide) (hw _ wd_627) (fun _ h9 => h9) rfl d_R_get_66 ?_
      refine lv_aload_n hx hb d_R_get_69 rfl (lv_at hl 0 rfl) ?_
      refine lv_aload_n hx hb d_R_get_70 rfl (lv_at hl 0 rfl) ?_
      refine va_get (D := (dC, dI)) (ci := 2) (v := .ref bR) (C := R_R) (T := T_R) (N := 18) hx hb hw in_R hown hK hP 0 rfl rfl 3 (by decide) (hw _ wd_619) (fun _ h9 => h9) rfl d_R_get_71 ?_
      refine lv_iload_n hx hb d_R_get_74 rfl (lv_at hl 2 rfl) ?_
      refine va_iald hx hb hK hP 1 0 rfl rfl h.1 d_R_get_75 ?_
      have h := h.2
      refine rq_calli (W.runS (As := [.int (mR_53 y2_53.toNatClampNeg)]) (rest := [.ref b0, .ref bL, .int y1_53, .ref bR]) ⟨hx, hb, hml, hown, hw⟩ (mR_placeOf l (mR_53 y2_53.toNatClampNeg) _ h) (va_cwS 1 hw g_R_62 rfl rfl rfl (by decide +kernel) ⟨Nat.le_of_ble_eq_true rfl, Nat.le_of_ble_eq_true rfl⟩) preEq rfl rfl hl.1 rfl (lv_room (Nat.le_of_ble_eq_true rfl)) d_R_get_76 ⟨Nat.le_of_ble_eq_true rfl, Nat.le_of_ble_eq_true rfl⟩) (fun r76 h => ?_)
      refine lv_iload_n hx hb d_R_get_79 rfl (lv_at hl 3 rfl) ?_
      refine rq_calli (W.runV (As := [.int r76, .int y3_53]) (rest := [.ref bL, .int y1_53, .ref bR]) ⟨hx, hb, hml, hown, hw⟩ (mR_cellAt l dC dI cI cZ b0 bR bI bC bY bZ bF bL bN bX bT mcd_53 mwd men mR_53 mI mC mY mZ mF mmd mhi mL mN mfr mX mT mct mtk r76 y3_53 _ h) (cwV 2 hw g_R_123 rfl rfl rfl (by decide +kernel) ⟨Nat.le_of_ble_eq_true rfl, Nat.le_of_ble_eq_true rfl⟩) (ro_PV (ci := 2) (q0 := 0) hK hP rfl rfl) rfl rfl hl.1 rfl (lv_room (Nat.le_of_ble_eq_true rfl)) d_R_get_80 ⟨Nat.le_of_ble_eq_true rfl, Nat.le_of_ble_eq_true rfl⟩) (fun r80 h => ?_)
      refine va_iald hx hb hK hP 7 0 rfl rfl h.1 d_R_get_83 ?_
      have h := h.2
      refine va_iast hx hb hK hP hD hS 1 0 rfl rfl h.1 d_R_get_84 (fun H locs hP hD hS => ?_)
      have hP : va_P (dC, dI) vwCl (RSw cI cZ b0 bR bI bC bY bZ bF bL bN bX bT mcd_53 mwd men (upd mR_53 y1_53.toNatClampNeg (mL r80.toNatClampNeg)) mI mC mY mZ mF mmd mhi mL mN mfr mX mT mct mtk) H := hP
      have hD : va_D A (RSw cI cZ b0 bR bI bC bY bZ bF bL bN bX bT mcd_53 mwd men (upd mR_53 y1_53.toNatClampNeg (mL r80.toNatClampNeg)) mI mC mY mZ mF mmd mhi mL mN mfr mX mT mct mtk) := hD
      have h := h.2
      exact W.vret hx hb hr9 (fun t ht hW => ⟨⟨(mcd_53, upd mR_53 y1_53.toNatClampNeg (mL r80.toNatClampNeg)), rfl, h, by rw [ht]; exact hP, va_K.moved hW.alike hK, hD⟩, hS.F ht⟩) hS.2.2 d_R_get_85
  have lp_22 : ∀ (y1_22 : Int32) (y2_22 : Int32) (y3_22 : Int32) (y4_22 : Int32) (mcd_22 : Int32) (mR_22 : Nat → Int32) (H : Heap) (locs : List Loc) (ls : Array Slot), va_P (dC, dI) vwCl (RSw cI cZ b0 bR bI bC bY bZ bF bL bN bX bT mcd_22 mwd men mR_22 mI mC mY mZ mF mmd mhi mL mN mfr mX mT mct mtk) H → va_D A (RSw cI cZ b0 bR bI bC bY bZ bF bL bN bX bT mcd_22 mwd men mR_22 mI mC mY mZ mF mmd mhi mL mN mfr mX mT mct mtk) → va_S A s.heap H locs → lv_has ls 5 [(0, .ref b0), (1, .int y1_22), (2, .int y2_22), (3, .int y3_22), (4, .int y4_22)] → wqR_get_22 mY mZ mF mL mN y1_22 y2_22 y3_22 y4_22 mcd_22 mR_22 post → W p l e (headSpec ws_R_get ({ frames := 3, cells := 0, slots := 0, locals := 62 })).room s m ([.ref b0, .int a1, .int a2, .int a3] : List Value).toArray below meth c H locs (0) (0) (MQ below (va_Qv (fun u : Int32 × (Nat → Int32) => post u.1 u.2) (rw_B (dC, dI) vwCl [(cI, .int), (cZ, .boolean)] A (fun u : Int32 × (Nat → Int32) => RSw cI cZ b0 bR bI bC bY bZ bF bL bN bX bT u.1 mwd men u.2 mI mC mY mZ mF mmd mhi mL mN mfr mX mT mct mtk)) A) ([.ref b0, .int a1, .int a2, .int a3] : List Value).toArray s 0 0 A) (F0 m 22 ls []) := by
    intro y1_22 y2_22 y3_22 y4_22 mcd_22 mR_22 H locs ls hP hD hS hl h
    unfold wqR_get_22 at h
    refine lv_aload_n hx hb d_R_get_22 rfl (lv_at hl 0 rfl) ?_
    refine lv_iload hx hb d_R_get_23 (lv_at hl 4 rfl) ?_
    refine lv_if_ne (tgt := 32) hx hb d_R_get_25 (by decide) (fun c_25 => ?_) (fun c_25 => ?_)
    · have h := h.2 c_25
      refine lv_iload_n hx hb d_R_get_32 rfl (lv_at hl 3 rfl) ?_
      refine lv_if_lt (tgt := 45) hx hb d_R_get_33 (by decide) (fun c_33 => ?_) (fun c_33 => ?_)
      · have h := h.1 c_33
        refine lv_iconst (v := (2 : Int32)) hx hb d_R_get_45 (by decide) ?_
        refine lv_goto (tgt := 50) hx hb d_R_get_46 (by decide) ?_
        refine va_put (D := (dC, dI)) (ci := 2) (v := .int (2 : Int32)) (ty := .int) (C := R_R) (T := T_R) (N := 18) hx hb hw in_R ty_R ty_R_ok nm_R hown hK hP hD hS 0 rfl rfl 0 (by decide) (hw _ wd_616) (fun _ h9 => h9) rfl (by decide +kernel) rfl rfl (Nat.le_of_ble_eq_true rfl) d_R_get_50 (fun H locs hP hD hS => ?_)
        have hP : va_P (dC, dI) vwCl (RSw cI cZ b0 bR bI bC bY bZ bF bL bN bX bT (2 : Int32) mwd men mR_22 mI mC mY mZ mF mmd mhi mL mN mfr mX mT mct mtk) H := hP
        have hD : va_D A (RSw cI cZ b0 bR bI bC bY bZ bF bL bN bX bT (2 : Int32) mwd men mR_22 mI mC mY mZ mF mmd mhi mL mN mfr mX mT mct mtk) := hD
        exact lp_53 y1_22 y2_22 y3_22 y4_22 (2 : Int32) mR_22 H locs ls hP hD hS (lv_sub hl [0, 1, 2, 3, 4] rfl) h
      · have h := h.2 c_33
        refine lv_iload_n hx hb d_R_get_36 rfl (lv_at hl 3 rfl) ?_
        refine lv_aload_n hx hb d_R_get_37 rfl (lv_at hl 0 rfl) ?_
        refine lv_iload_n hx hb d_R_get_38 rfl (lv_at hl 2 rfl) ?_
        refine rq_calli (W.runV (As := [.int y2_22]) (rest := [.int y3_22, .ref b0]) ⟨hx, hb, hml, hown, hw⟩ (mR_sizeOf l dC dI cI cZ b0 bR bI bC bY bZ bF bL bN bX bT mcd_22 mwd men mR_22 mI mC mY mZ mF mmd mhi mL mN mfr mX mT mct mtk y2_22 _ h) (cwV 1 hw g_R_114 rfl rfl rfl (by decide +kernel) ⟨Nat.le_of_ble_eq_true rfl, Nat.le_of_ble_eq_true rfl⟩) (ro_PV (ci := 2) (q0 := 0) hK hP rfl rfl) rfl rfl hl.1 rfl (lv_room (Nat.le_of_ble_eq_true rfl)) d_R_get_39 ⟨Nat.le_of_ble_eq_true rfl, Nat.le_of_ble_eq_true rfl⟩) (fun r39 h => ?_)
        refine lv_icmp_lt (tgt := 49) hx hb d_R_get_42 (by decide) (fun c_42 => ?_) (fun c_42 => ?_)
        · have h := h.1 c_42
          refine lv_iconst (v := (0 : Int32)) hx hb d_R_get_49 (by decide) ?_
          refine va_put (D := (dC, dI)) (ci := 2) (v := .int (0 : Int32)) (ty := .int) (C := R_R) (T := T_R) (N := 18) hx hb hw in_R ty_R ty_R_ok nm_R hown hK hP hD hS 0 rfl rfl 0 (by decide) (hw _ wd_616) (fun _ h9 => h9) rfl (by decide +kernel) rfl rfl (Nat.le_of_ble_eq_true rfl) d_R_get_50 (fun H locs hP hD hS => ?_)
          have hP : va_P (dC, dI) vwCl (RSw cI cZ b0 bR bI bC bY bZ bF bL bN bX bT (0 : Int32) mwd men mR_22 mI mC mY mZ mF mmd mhi mL mN mfr mX mT mct mtk) H := hP
          have hD : va_D A (RSw cI cZ b0 bR bI bC bY bZ bF bL bN bX bT (0 : Int32) mwd men mR_22 mI mC mY mZ mF mmd mhi mL mN mfr mX mT mct mtk) := hD
          exact lp_53 y1_22 y2_22 y3_22 y4_22 (0 : Int32) mR_22 H locs ls hP hD hS (lv_sub hl [0, 1, 2, 3, 4] rfl) h
        · have h := h.2 c_42
          refine lv_iconst (v := (2 : Int32)) hx hb d_R_get_45 (by decide) ?_
          refine lv_goto (tgt := 50) hx hb d_R_get_46 (by decide) ?_
          refine va_put (D := (dC, dI)) (ci := 2) (v := .int (2 : Int32)) (ty := .int) (C := R_R) (T := T_R) (N := 18) hx hb hw in_R ty_R ty_R_ok nm_R hown hK hP hD hS 0 rfl rfl 0 (by decide) (hw _ wd_616) (fun _ h9 => h9) rfl (by decide +kernel) rfl rfl (Nat.le_of_ble_eq_true rfl) d_R_get_50 (fun H locs hP hD hS => ?_)
          have hP : va_P (dC, dI) vwCl (RSw cI cZ b0 bR bI bC bY bZ bF bL bN bX bT (2 : Int32) mwd men mR_22 mI mC mY mZ mF mmd mhi mL mN mfr mX mT mct mtk) H := hP
          have hD : va_D A (RSw cI cZ b0 bR bI bC bY bZ bF bL bN bX bT (2 : Int32) mwd men mR_22 mI mC mY mZ mF mmd mhi mL mN mfr mX mT mct mtk) := hD
          exact lp_53 y1_22 y2_22 y3_22 y4_22 (2 : Int32) mR_22 H locs ls hP hD hS (lv_sub hl [0, 1, 2, 3, 4] rfl) h
    · have h := h.1 c_25
      refine lv_iconst (v := (1 : Int32)) hx hb d_R_get_28 (by decide) ?_
      refine lv_goto (tgt := 50) hx hb d_R_get_29 (by decide) ?_
      refine va_put (D := (dC, dI)) (ci := 2) (v := .int (1 : Int32)) (ty := .int) (C := R_R) (T := T_R) (N := 18) hx hb hw in_R ty_R ty_R_ok nm_R hown hK hP hD hS 0 rfl rfl 0 (by decide) (hw _ wd_616) (fun _ h9 => h9) rfl (by decide +kernel) rfl rfl (Nat.le_of_ble_eq_true rfl) d_R_get_50 (fun H locs hP hD hS => ?_)
      have hP : va_P (dC, dI) vwCl (RSw cI cZ b0 bR bI bC bY bZ bF bL bN bX bT (1 : Int32) mwd men mR_22 mI mC mY mZ mF mmd mhi mL mN mfr mX mT mct mtk) H := hP
      have hD : va_D A (RSw cI cZ b0 bR bI bC bY bZ bF bL bN bX bT (1 : Int32) mwd men mR_22 mI mC mY mZ mF mmd mhi mL mN mfr mX mT mct mtk) := hD
      exact lp_53 y1_22 y2_22 y3_22 y4_22 (1 : Int32) mR_22 H locs ls hP hD hS (lv_sub hl [0, 1, 2, 3, 4] rfl) h
  have lp_19 : ∀ (y1_19 : Int32) (y2_19 : Int32) (y3_19 : Int32) (mcd_19 : Int32) (mR_19 : Nat → Int32) (H : Heap) (locs : List Loc) (ls : Array Slot), va_P (dC, dI) vwCl (RSw cI cZ b0 bR bI bC bY bZ bF bL bN bX bT mcd_19 mwd men mR_19 mI mC mY mZ mF mmd mhi mL mN mfr mX mT mct mtk) H → va_D A (RSw cI cZ b0 bR bI bC bY bZ bF bL bN bX bT mcd_19 mwd men mR_19 mI mC mY mZ mF mmd mhi mL mN mfr mX mT mct mtk) → va_S A s.heap H locs → lv_has ls 5 [(0, .ref b0), (1, .int y1_19), (2, .int y2_19), (3, .int y3_19)] → wqR_get_19 mY mZ mF mL mN y1_19 y2_19 y3_19 mcd_19 mR_19 post → W p l e (headSpec ws_R_get ({ frames := 3, cells := 0, slots := 0, locals := 62 })).room s m ([.ref b0, .int a1, .int a2, .int a3] : List Value).toArray below meth c H locs (0) (0) (MQ below (va_Qv (fun u : Int32 × (Nat → Int32) => post u.1 u.2) (rw_B (dC, dI) vwCl [(cI, .int), (cZ, .boolean)] A (fun u : Int32 × (Nat → Int32) => RSw cI cZ b0 bR bI bC bY bZ bF bL bN bX bT u.1 mwd men u.2 mI mC mY mZ mF mmd mhi mL mN mfr mX mT mct mtk)) A) ([.ref b0, .int a1, .int a2, .int a3] : List Value).toArray s 0 0 A) (F0 m 19 ls []) := by
    intro y1_19 y2_19 y3_19 mcd_19 mR_19 H locs ls hP hD hS hl h
    unfold wqR_get_19 at h
    refine lv_iconst (v := (0 : Int32)) hx hb d_R_get_19 (by decide) ?_
    refine lv_istore (lv' := [(4, .int (0 : Int32)), (0, .ref b0), (1, .int y1_19), (2, .int y2_19), (3, .int y3_19)]) hx hb d_R_get_20 hl (by decide) rfl (fun ls hl => ?_)
    exact lp_22 y1_19 y2_19 y3_19 (0 : Int32) mcd_19 mR_19 H locs ls hP hD hS (lv_sub hl [1, 2, 3, 4, 0] rfl) h
  unfold wqR_get at h
  refine lv_iload_n hx hb d_R_get_0 rfl (lv_at hl 1 rfl) ?_
  refine rq_calli (W.runS (As := [.int a1]) (rest := []) ⟨hx, hb, hml, hown, hw⟩ (mR_isRegister l a1 _ h) (va_cwS 1 hw g_R_52 rfl rfl rfl (by decide +kernel) ⟨Nat.le_of_ble_eq_true rfl, Nat.le_of_ble_eq_true rfl⟩) preEq rfl rfl hl.1 rfl (lv_room (Nat.le_of_ble_eq_true rfl)) d_R_get_1 ⟨Nat.le_of_ble_eq_true rfl, Nat.le_of_ble_eq_true rfl⟩) (fun r1 h => ?_)
  refine lv_if_eq (tgt := 19) hx hb d_R_get_4 (by decide) (fun c_4 => ?_) (fun c_4 => ?_)
  · have h := h.1 c_4
    exact lp_19 a1 a2 a3 mcd mR s.heap [] ls hP hD hS (lv_sub hl [0, 1, 2, 3] rfl) h
  · have h := h.2 c_4
    refine lv_aload_n hx hb d_R_get_7 rfl (lv_at hl 0 rfl) ?_
    refine lv_iload_n hx hb d_R_get_8 rfl (lv_at hl 2 rfl) ?_
    refine rq_calli (W.runV (As := [.int a2]) (rest := []) ⟨hx, hb, hml, hown, hw⟩ (mR_hasSlots l dC dI cI cZ b0 bR bI bC bY bZ bF bL bN bX bT mcd mwd men mR mI mC mY mZ mF mmd mhi mL mN mfr mX mT mct mtk a2 _ h) (cwV 1 hw g_R_120 rfl rfl rfl (by decide +kernel) ⟨Nat.le_of_ble_eq_true rfl, Nat.le_of_ble_eq_true rfl⟩) (ro_PV (ci := 2) (q0 := 0) hK hP rfl rfl) rfl rfl hl.1 rfl (lv_room (Nat.le_of_ble_eq_true rfl)) d_R_get_9 ⟨Nat.le_of_ble_eq_true rfl, Nat.le_of_ble_eq_true rfl⟩) (fun r9 h => ?_)
    refine lv_if_eq (tgt := 19) hx hb d_R_get_12 (by decide) (fun c_12 => ?_) (fun c_12 => ?_)
    · have h := h.1 c_12
      exact lp_19 a1 a2 a3 mcd mR s.heap [] ls hP hD hS (lv_sub hl [0, 1, 2, 3] rfl) h
    · have h := h.2 c_12
      refine lv_iconst (v := (1 : Int32)) hx hb d_R_get_15 (by decide) ?_
      refine lv_goto (tgt := 20) hx hb d_R_get_16 (by decide) ?_
      refine lv_istore (lv' := [(4, .int (1 : Int32)), (0, .ref b0), (1, .int a1), (2, .int a2), (3, .int a3)]) hx hb d_R_get_20 hl (by decide) rfl (fun ls hl => ?_)
      exact lp_22 a1 a2 a3 (1 : Int32) mcd mR s.heap [] ls hP hD hS (lv_sub hl [1, 2, 3, 4, 0] rfl) h
def wqR_put_53 (mR : Nat → Int32) (mY : Nat → Int32) (mZ : Nat → Int32) (mF : Nat → Int32) (mN : Nat → Int32) (y1_53 : Int32) (y2_53 : Int32) (y3_53 : Int32) (y4_53 : Int32) (mcd_53 : Int32) (mL_53 : Nat → Int32) (post : Int32 → (Nat → Int32) → Prop) : Prop :=
  (mcd_53 = 0 → (vp_in y1_53 32 ∧ (wqR_placeOf (mR y1_53.toNatClampNeg) (fun r71 => wqR_cellAt mF mN r71 y2_53 (fun r75 => vp_in y3_53 32 ∧ (vp_in r75 65536 ∧ (post mcd_53 (upd mL_53 r75.toNatClampNeg (mR y3_53.toNatClampNeg))))))))) ∧ (¬ (mcd_53 = 0) → (post mcd_53 mL_53))
def wqR_put_22 (mR : Nat → Int32) (mY : Nat → Int32) (mZ : Nat → Int32) (mF : Nat → Int32) (mN : Nat → Int32) (y1_22 : Int32) (y2_22 : Int32) (y3_22 : Int32) (y4_22 : Int32) (mcd_22 : Int32) (mL_22 : Nat → Int32) (post : Int32 → (Nat → Int32) → Prop) : Prop :=
  (y4_22 = 0 → (wqR_put_53 mR mY mZ mF mN y1_22 y2_22 y3_22 y4_22 (1 : Int32) mL_22 post)) ∧ (¬ (y4_22 = 0) → ((y2_22 < 0 → (wqR_put_53 mR mY mZ mF mN y1_22 y2_22 y3_22 y4_22 (2 : Int32) mL_22 post)) ∧ (¬ (y2_22 < 0) → (wqR_sizeOf mR mZ y1_22 (fun r39 => (y2_22 < r39 → (wqR_put_53 mR mY mZ mF mN y1_22 y2_22 y3_22 y4_22 (0 : Int32) mL_22 post)) ∧ (¬ (y2_22 < r39) → (wqR_put_53 mR mY mZ mF mN y1_22 y2_22 y3_22 y4_22 (2 : Int32) mL_22 post)))))))
def wqR_put_19 (mR : Nat → Int32) (mY : Nat → Int32) (mZ : Nat → Int32) (mF : Nat → Int32) (mN : Nat → Int32) (y1_19 : Int32) (y2_19 : Int32) (y3_19 : Int32) (mcd_19 : Int32) (mL_19 : Nat → Int32) (post : Int32 → (Nat → Int32) → Prop) : Prop :=
  wqR_put_22 mR mY mZ mF mN y1_19 y2_19 y3_19 (0 : Int32) mcd_19 mL_19 post
def wqR_put (mcd : Int32) (mR : Nat → Int32) (mY : Nat → Int32) (mZ : Nat → Int32) (mF : Nat → Int32) (mL : Nat → Int32) (mN : Nat → Int32) (a1 : Int32) (a2 : Int32) (a3 : Int32) (post : Int32 → (Nat → Int32) → Prop) : Prop :=
  wqR_hasSlots mR mY a1 (fun r2 => (r2 = 0 → (wqR_put_19 mR mY mZ mF mN a1 a2 a3 mcd mL post)) ∧ (¬ (r2 = 0) → (wqR_isRegister a3 (fun r9 => (r9 = 0 → (wqR_put_19 mR mY mZ mF mN a1 a2 a3 mcd mL post)) ∧ (¬ (r9 = 0) → (wqR_put_22 mR mY mZ mF mN a1 a2 a3 (1 : Int32) mcd mL post))))))
set_option maxHeartbeats 4000000 in
set_option maxRecDepth 100000 in
theorem mR_put (l : Launch) (dC : Nat → ClassId) (dI : Nat → Nat → Nat) (cI : ClassId) (cZ : ClassId) (b0 : Nat) (bR : Nat) (bI : Nat) (bC : Nat) (bY : Nat) (bZ : Nat) (bF : Nat) (bL : Nat) (bN : Nat) (bX : Nat) (bT : Nat) (sz : Nat) (mcd : Int32) (mwd : Int32) (men : Int32) (mR : Nat → Int32) (mI : Nat → Int32) (mC : Nat → Int32) (mY : Nat → Int32) (mZ : Nat → Int32) (mF : Nat → Int32) (mmd : Int32) (mhi : Int32) (mL : Nat → Int32) (mN : Nat → Int32) (mfr : Int32) (mX : Nat → Int32) (mT : Nat → Int32) (mct : Int32) (mtk : Int32) (a1 : Int32) (a2 : Int32) (a3 : Int32) (post : Int32 → (Nat → Int32) → Prop) (h : wqR_put mcd mR mY mZ mF mL mN a1 a2 a3 post) : Met l y_R_put ws_R_put ({ frames := 3, cells := 0, slots := 0, locals := 62 }) (rw_P (dC, dI) vwCl (RSw cI cZ b0 bR bI bC bY bZ bF bL bN bX bT mcd mwd men mR mI mC mY mZ mF mmd mhi mL mN mfr mX mT mct mtk) [(cI, .int), (cZ, .boolean)] sz [.ref b0, .int a1, .int a2, .int a3]) (va_Qv (fun u : Int32 × (Nat → Int32) => post u.1 u.2) (rw_B (dC, dI) vwCl [(cI, .int), (cZ, .boolean)] (va_A (RSw cI cZ b0 bR bI bC bY bZ bF bL bN bX bT mcd mwd men mR mI mC mY mZ mF mmd mhi mL mN mfr mX mT mct mtk) sz) (fun u : Int32 × (Nat → Int32) => RSw cI cZ b0 bR bI bC bY bZ bF bL bN bX bT u.1 mwd men mR mI mC mY mZ mF mmd mhi u.2 mN mfr mX mT mct mtk)) (va_A (RSw cI cZ b0 bR bI bC bY bZ bF bL bN bX bT mcd mwd men mR mI mC mY mZ mF mmd mhi mL mN mfr mX mT mct mtk) sz)) 0 0 (va_A (RSw cI cZ b0 bR bI bC bY bZ bF bL bN bX bT mcd mwd men mR mI mC mY mZ mF mmd mhi mL mN mfr mX mT mct mtk) sz) := by
  refine Met.ofW (cc := c_R_put) (maxL := 5) (ret := none) (by decide) rfl ?_
  intro p e s m args below meth c s₁ B hml hv
  obtain ⟨rfl, hsz, hP, hK, hD0⟩ := hv
  have hx := B.exec
  have hb := B.bytes
  have hr9 := B.returns
  have hts := atoms_spec (ws := ws_R_put) B.pre
  have hw : ∀ w ∈ WB_, w.before _ s = true := fun w h => hts w (List.mem_cons_of_mem _ h)
  have hown : s.vm.findClass R_R = some m.cls := findClass_of_methodNamed B.named
  have hlocks := B.notSynchronized
  subst hsz
  have hD := hD0.self (sz := s.heap.size)
  generalize hAe : va_A (RSw cI cZ b0 bR bI bC bY bZ bF bL bN bX bT mcd mwd men mR mI mC mY mZ mF mmd mhi mL mN mfr mX mT mct mtk) s.heap.size = A at hD ⊢
  have hA : ∀ q : Nat, s.heap.size ≤ q → A q := fun q h => by rw [← hAe]; exact Or.inr h
  have hS : va_S A s.heap s.heap [] := va_S.rf
  have hl := lv_entry ([.ref b0, .int a1, .int a2, .int a3]) (n := 5) (Nat.le_of_ble_eq_true rfl)
  rw [lg_entry_eq]
  generalize (lg_sl ([.ref b0, .int a1, .int a2, .int a3]) ++ List.replicate (5 - (lg_sl ([.ref b0, .int a1, .int a2, .int a3])).length) Slot.unset).toArray = ls at hl ⊢
  have hl : lv_has ls 5 [(0, .ref b0), (1, .int a1), (2, .int a2), (3, .int a3)] := hl
  have lp_53 : ∀ (y1_53 : Int32) (y2_53 : Int32) (y3_53 : Int32) (y4_53 : Int32) (mcd_53 : Int32) (mL_53 : Nat → Int32) (H : Heap) (locs : List Loc) (ls : Array Slot), va_P (dC, dI) vwCl (RSw cI cZ b0 bR bI bC bY bZ bF bL bN bX bT mcd_53 mwd men mR mI mC mY mZ mF mmd mhi mL_53 mN mfr mX mT mct mtk) H → va_D A (RSw cI cZ b0 bR bI bC bY bZ bF bL bN bX bT mcd_53 mwd men mR mI mC mY mZ mF mmd mhi mL_53 mN mfr mX mT mct mtk) → va_S A s.heap H locs → lv_has ls 5 [(0, .ref b0), (1, .int y1_53), (2, .int y2_53), (3, .int y3_53), (4, .int y4_53)] → wqR_put_53 mR mY mZ mF mN y1_53 y2_53 y3_53 y4_53 mcd_53 mL_53 post → W p l e (headSpec ws_R_put ({ frames := 3, cells := 0, slots := 0, locals := 62 })).room s m ([.ref b0, .int a1, .int a2, .int a3] : List Value).toArray below meth c H locs (0) (0) (MQ below (va_Qv (fun u : Int32 × (Nat → Int32) => post u.1 u.2) (rw_B (dC, dI) vwCl [(cI, .int), (cZ, .boolean)] A (fun u : Int32 × (Nat → Int32) => RSw cI cZ b0 bR bI bC bY bZ bF bL bN bX bT u.1 mwd men mR mI mC mY mZ mF mmd mhi u.2 mN mfr mX mT mct mtk)) A) ([.ref b0, .int a1, .int a2, .int a3] : List Value).toArray s 0 0 A) (F0 m 53 ls []) := by
    intro y1_53 y2_53 y3_53 y4_53 mcd_53 mL_53 H locs ls hP hD hS hl h
    unfold wqR_put_53 at h
    refine lv_aload_n hx hb d_R_put_53 rfl (lv_at hl 0 rfl) ?_
    refine va_get (D := (dC, dI)) (ci := 2) (v := .int mcd_53) (C := R_R) (T := T_R) (N := 18) hx hb hw in_R hown hK hP 0 rfl rfl 0 (by decide) (hw _ wd_616) (fun _ h9 => h9) rfl d_R_put_54 ?_
    refine lv_if_ne (tgt := 85) hx hb d_R_put_57 (by decide) (fun c_57 => ?_) (fun c_57 => ?_)
    · have h := h.2 c_57
      exact W.vret hx hb hr9 (fun t ht hW => ⟨⟨(mcd_53, mL_53), rfl, h, by rw [ht]; exact hP, va_K.moved hW.alike hK, hD⟩, hS.F ht⟩) hS.2.2 d_R_put_85
    · have h := h.1 c_57
      refine lv_aload_n hx hb d_R_put_60 rfl (lv_at hl 0 rfl) ?_
      refine va_get (D := (dC, dI)) (ci := 2) (v := .ref bL) (C := R_R) (T := T_R) (N := 18) hx hb hw in_R hown hK hP 0 rfl rfl 11 (by decide) (hw _ wd_627) (fun _ h9 => h9) rfl d_R_put_61 ?_
      refine lv_aload_n hx hb d_R_put_64 rfl (lv_at hl 0 rfl) ?_
      refine lv_aload_n hx hb d_R_put_65 rfl (lv_at hl 0 rfl) ?_
      refine va_get (D := (dC, dI)) (ci := 2) (v := .ref bR) (C := R_R) (T := T_R) (N := 18) hx hb hw in_R hown hK hP 0 rfl rfl 3 (by decide) (hw _ wd_619) (fun _ h9 => h9) rfl d_R_put_66 ?_
      refine lv_iload_n hx hb d_R_put_69 rfl (lv_at hl 1 rfl) ?_
      refine va_iald hx hb hK hP 1 0 rfl rfl h.1 d_R_put_70 ?_
      have h := h.2
      refine rq_calli (W.runS (As := [.int (mR y1_53.toNatClampNeg)]) (rest := [.ref b0, .ref bL]) ⟨hx, hb, hml, hown, hw⟩ (mR_placeOf l (mR y1_53.toNatClampNeg) _ h) (va_cwS 1 hw g_R_62 rfl rfl rfl (by decide +kernel) ⟨Nat.le_of_ble_eq_true rfl, Nat.le_of_ble_eq_true rfl⟩) preEq rfl rfl hl.1 rfl (lv_room (Nat.le_of_ble_eq_true rfl)) d_R_put_71 ⟨Nat.le_of_ble_eq_true rfl, Nat.le_of_ble_eq_true rfl⟩) (fun r71 h => ?_)
      refine lv_iload_n hx hb d_R_put_74 rfl (lv_at hl 2 rfl) ?_
      refine rq_calli (W.runV (As := [.int r71, .int y2_53]) (rest := [.ref bL]) ⟨hx, hb, hml, hown, hw⟩ (mR_cellAt l dC dI cI cZ b0 bR bI bC bY bZ bF bL bN bX bT mcd_53 mwd men mR mI mC mY mZ mF mmd mhi mL_53 mN mfr mX mT mct mtk r71 y2_53 _ h) (cwV 2 hw g_R_123 rfl rfl rfl (by decide +kernel) ⟨Nat.le_of_ble_eq_true rfl, Nat.le_of_ble_eq_true rfl⟩) (ro_PV (ci := 2) (q0 := 0) hK hP rfl rfl) rfl rfl hl.1 rfl (lv_room (Nat.le_of_ble_eq_true rfl)) d_R_put_75 ⟨Nat.le_of_ble_eq_true rfl, Nat.le_of_ble_eq_true rfl⟩) (fun r75 h => ?_)
      refine lv_aload_n hx hb d_R_put_78 rfl (lv_at hl 0 rfl) ?_
      refine va_get (D := (dC, dI)) (ci := 2) (v := .ref bR) (C := R_R) (T := T_R) (N := 18) hx hb hw in_R hown hK hP 0 rfl rfl 3 (by decide) (hw _ wd_619) (fun _ h9 => h9) rfl d_R_put_79 ?_
      refine lv_iload_n hx hb d_R_put_82 rfl (lv_at hl 3 rfl) ?_
      refine va_iald hx hb hK hP 1 0 rfl rfl h.1 d_R_put_83 ?_
      have h := h.2
      refine va_iast hx hb hK hP hD hS 7 0 rfl rfl h.1 d_R_put_84 (fun H locs hP hD hS => ?_)
      have hP : va_P (dC, dI) vwCl (RSw cI cZ b0 bR bI bC bY bZ bF bL bN bX bT mcd_53 mwd men mR mI mC mY mZ mF mmd mhi (upd mL_53 r75.toNatClampNeg (mR y3_53.toNatClampNeg)) mN mfr mX mT mct mtk) H := hP
      have hD : va_D A (RSw cI cZ b0 bR bI bC bY bZ bF bL bN bX bT mcd_53 mwd men mR mI mC mY mZ mF mmd mhi (upd mL_53 r75.toNatClampNeg (mR y3_53.toNatClampNeg)) mN mfr mX mT mct mtk) := hD
      have h := h.2
      exact W.vret hx hb hr9 (fun t ht hW => ⟨⟨(mcd_53, upd mL_53 r75.toNatClampNeg (mR y3_53.toNatClampNeg)), rfl, h, by rw [ht]; exact hP, va_K.moved hW.alike hK, hD⟩, hS.F ht⟩) hS.2.2 d_R_put_85
  have lp_22 : ∀ (y1_22 : Int32) (y2_22 : Int32) (y3_22 : Int32) (y4_22 : Int32) (mcd_22 : Int32) (mL_22 : Nat → Int32) (H : Heap) (locs : List Loc) (ls : Array Slot), va_P (dC, dI) vwCl (RSw cI cZ b0 bR bI bC bY bZ bF bL bN bX bT mcd_22 mwd men mR mI mC mY mZ mF mmd mhi mL_22 mN mfr mX mT mct mtk) H → va_D A (RSw cI cZ b0 bR bI bC bY bZ bF bL bN bX bT mcd_22 mwd men mR mI mC mY mZ mF mmd mhi mL_22 mN mfr mX mT mct mtk) → va_S A s.heap H locs → lv_has ls 5 [(0, .ref b0), (1, .int y1_22), (2, .int y2_22), (3, .int y3_22), (4, .int y4_22)] → wqR_put_22 mR mY mZ mF mN y1_22 y2_22 y3_22 y4_22 mcd_22 mL_22 post → W p l e (headSpec ws_R_put ({ frames := 3, cells := 0, slots := 0, locals := 62 })).room s m ([.ref b0, .int a1, .int a2, .int a3] : List Value).toArray below meth c H locs (0) (0) (MQ below (va_Qv (fun u : Int32 × (Nat → Int32) => post u.1 u.2) (rw_B (dC, dI) vwCl [(cI, .int), (cZ, .boolean)] A (fun u : Int32 × (Nat → Int32) => RSw cI cZ b0 bR bI bC bY bZ bF bL bN bX bT u.1 mwd men mR mI mC mY mZ mF mmd mhi u.2 mN mfr mX mT mct mtk)) A) ([.ref b0, .int a1, .int a2, .int a3] : List Value).toArray s 0 0 A) (F0 m 22 ls []) := by
    intro y1_22 y2_22 y3_22 y4_22 mcd_22 mL_22 H locs ls hP hD hS hl h
    unfold wqR_put_22 at h
    refine lv_aload_n hx hb d_R_put_22 rfl (lv_at hl 0 rfl) ?_
    refine lv_iload hx hb d_R_put_23 (lv_at hl 4 rfl) ?_
    refine lv_if_ne (tgt := 32) hx hb d_R_put_25 (by decide) (fun c_25 => ?_) (fun c_25 => ?_)
    · have h := h.2 c_25
      refine lv_iload_n hx hb d_R_put_32 rfl (lv_at hl 2 rfl) ?_
      refine lv_if_lt (tgt := 45) hx hb d_R_put_33 (by decide) (fun c_33 => ?_) (fun c_33 => ?_)
      · have h := h.1 c_33
        refine lv_iconst (v := (2 : Int32)) hx hb d_R_put_45 (by decide) ?_
        refine lv_goto (tgt := 50) hx hb d_R_put_46 (by decide) ?_
        refine va_put (D := (dC, dI)) (ci := 2) (v := .int (2 : Int32)) (ty := .int) (C := R_R) (T := T_R) (N := 18) hx hb hw in_R ty_R ty_R_ok nm_R hown hK hP hD hS 0 rfl rfl 0 (by decide) (hw _ wd_616) (fun _ h9 => h9) rfl (by decide +kernel) rfl rfl (Nat.le_of_ble_eq_true rfl) d_R_put_50 (fun H locs hP hD hS => ?_)
        have hP : va_P (dC, dI) vwCl (RSw cI cZ b0 bR bI bC bY bZ bF bL bN bX bT (2 : Int32) mwd men mR mI mC mY mZ mF mmd mhi mL_22 mN mfr mX mT mct mtk) H := hP
        have hD : va_D A (RSw cI cZ b0 bR bI bC bY bZ bF bL bN bX bT (2 : Int32) mwd men mR mI mC mY mZ mF mmd mhi mL_22 mN mfr mX mT mct mtk) := hD
        exact lp_53 y1_22 y2_22 y3_22 y4_22 (2 : Int32) mL_22 H locs ls hP hD hS (lv_sub hl [0, 1, 2, 3, 4] rfl) h
      · have h := h.2 c_33
        refine lv_iload_n hx hb d_R_put_36 rfl (lv_at hl 2 rfl) ?_
        refine lv_aload_n hx hb d_R_put_37 rfl (lv_at hl 0 rfl) ?_
        refine lv_iload_n hx hb d_R_put_38 rfl (lv_at hl 1 rfl) ?_
        refine rq_calli (W.runV (As := [.int y1_22]) (rest := [.int y2_22, .ref b0]) ⟨hx, hb, hml, hown, hw⟩ (mR_sizeOf l dC dI cI cZ b0 bR bI bC bY bZ bF bL bN bX bT mcd_22 mwd men mR mI mC mY mZ mF mmd mhi mL_22 mN mfr mX mT mct mtk y1_22 _ h) (cwV 1 hw g_R_114 rfl rfl rfl (by decide +kernel) ⟨Nat.le_of_ble_eq_true rfl, Nat.le_of_ble_eq_true rfl⟩) (ro_PV (ci := 2) (q0 := 0) hK hP rfl rfl) rfl rfl hl.1 rfl (lv_room (Nat.le_of_ble_eq_true rfl)) d_R_put_39 ⟨Nat.le_of_ble_eq_true rfl, Nat.le_of_ble_eq_true rfl⟩) (fun r39 h => ?_)
        refine lv_icmp_lt (tgt := 49) hx hb d_R_put_42 (by decide) (fun c_42 => ?_) (fun c_42 => ?_)
        · have h := h.1 c_42
          refine lv_iconst (v := (0 : Int32)) hx hb d_R_put_49 (by decide) ?_
          refine va_put (D := (dC, dI)) (ci := 2) (v := .int (0 : Int32)) (ty := .int) (C := R_R) (T := T_R) (N := 18) hx hb hw in_R ty_R ty_R_ok nm_R hown hK hP hD hS 0 rfl rfl 0 (by decide) (hw _ wd_616) (fun _ h9 => h9) rfl (by decide +kernel) rfl rfl (Nat.le_of_ble_eq_true rfl) d_R_put_50 (fun H locs hP hD hS => ?_)
          have hP : va_P (dC, dI) vwCl (RSw cI cZ b0 bR bI bC bY bZ bF bL bN bX bT (0 : Int32) mwd men mR mI mC mY mZ mF mmd mhi mL_22 mN mfr mX mT mct mtk) H := hP
          have hD : va_D A (RSw cI cZ b0 bR bI bC bY bZ bF bL bN bX bT (0 : Int32) mwd men mR mI mC mY mZ mF mmd mhi mL_22 mN mfr mX mT mct mtk) := hD
          exact lp_53 y1_22 y2_22 y3_22 y4_22 (0 : Int32) mL_22 H locs ls hP hD hS (lv_sub hl [0, 1, 2, 3, 4] rfl) h
        · have h := h.2 c_42
          refine lv_iconst (v := (2 : Int32)) hx hb d_R_put_45 (by decide) ?_
          refine lv_goto (tgt := 50) hx hb d_R_put_46 (by decide) ?_
          refine va_put (D := (dC, dI)) (ci := 2) (v := .int (2 : Int32)) (ty := .int) (C := R_R) (T := T_R) (N := 18) hx hb hw in_R ty_R ty_R_ok nm_R hown hK hP hD hS 0 rfl rfl 0 (by decide) (hw _ wd_616) (fun _ h9 => h9) rfl (by decide +kernel) rfl rfl (Nat.le_of_ble_eq_true rfl) d_R_put_50 (fun H locs hP hD hS => ?_)
          have hP : va_P (dC, dI) vwCl (RSw cI cZ b0 bR bI bC bY bZ bF bL bN bX bT (2 : Int32) mwd men mR mI mC mY mZ mF mmd mhi mL_22 mN mfr mX mT mct mtk) H := hP
          have hD : va_D A (RSw cI cZ b0 bR bI bC bY bZ bF bL bN bX bT (2 : Int32) mwd men mR mI mC mY mZ mF mmd mhi mL_22 mN mfr mX mT mct mtk) := hD
          exact lp_53 y1_22 y2_22 y3_22 y4_22 (2 : Int32) mL_22 H locs ls hP hD hS (lv_sub hl [0, 1, 2, 3, 4] rfl) h
    · have h := h.1 c_25
      refine lv_iconst (v := (1 : Int32)) hx hb d_R_put_28 (by decide) ?_
      refine lv_goto (tgt := 50) hx hb d_R_put_29 (by decide) ?_
      refine va_put (D := (dC, dI)) (ci := 2) (v := .int (1 : Int32)) (ty := .int) (C := R_R) (T := T_R) (N := 18) hx hb hw in_R ty_R ty_R_ok nm_R hown hK hP hD hS 0 rfl rfl 0 (by decide) (hw _ wd_616) (fun _ h9 => h9) rfl (by decide +kernel) rfl rfl (Nat.le_of_ble_eq_true rfl) d_R_put_50 (fun H locs hP hD hS => ?_)
      have hP : va_P (dC, dI) vwCl (RSw cI cZ b0 bR bI bC bY bZ bF bL bN bX bT (1 : Int32) mwd men mR mI mC mY mZ mF mmd mhi mL_22 mN mfr mX mT mct mtk) H := hP
      have hD : va_D A (RSw cI cZ b0 bR bI bC bY bZ bF bL bN bX bT (1 : Int32) mwd men mR mI mC mY mZ mF mmd mhi mL_22 mN mfr mX mT mct mtk) := hD
      exact lp_53 y1_22 y2_22 y3_22 y4_22 (1 : Int32) mL_22 H locs ls hP hD hS (lv_sub hl [0, 1, 2, 3, 4] rfl) h
  have lp_19 : ∀ (y1_19 : Int32) (y2_19 : Int32) (y3_19 : Int32) (mcd_19 : Int32) (mL_19 : Nat → Int32) (H : Heap) (locs : List Loc) (ls : Array Slot), va_P (dC, dI) vwCl (RSw cI cZ b0 bR bI bC bY bZ bF bL bN bX bT mcd_19 mwd men mR mI mC mY mZ mF mmd mhi mL_19 mN mfr mX mT mct mtk) H → va_D A (RSw cI cZ b0 bR bI bC bY bZ bF bL bN bX bT mcd_19 mwd men mR mI mC mY mZ mF mmd mhi mL_19 mN mfr mX mT mct mtk) → va_S A s.heap H locs → lv_has ls 5 [(0, .ref b0), (1, .int y1_19), (2, .int y2_19), (3, .int y3_19)] → wqR_put_19 mR mY mZ mF mN y1_19 y2_19 y3_19 mcd_19 mL_19 post → W p l e (headSpec ws_R_put ({ frames := 3, cells := 0, slots := 0, locals := 62 })).room s m ([.ref b0, .int a1, .int a2, .int a3] : List Value).toArray below meth c H locs (0) (0) (MQ below (va_Qv (fun u : Int32 × (Nat → Int32) => post u.1 u.2) (rw_B (dC, dI) vwCl [(cI, .int), (cZ, .boolean)] A (fun u : Int32 × (Nat → Int32) => RSw cI cZ b0 bR bI bC bY bZ bF bL bN bX bT u.1 mwd men mR mI mC mY mZ mF mmd mhi u.2 mN mfr mX mT mct mtk)) A) ([.ref b0, .int a1, .int a2, .int a3] : List Value).toArray s 0 0 A) (F0 m 19 ls []) := by
    intro y1_19 y2_19 y3_19 mcd_19 mL_19 H locs ls hP hD hS hl h
    unfold wqR_put_19 at h
    refine lv_iconst (v := (0 : Int32)) hx hb d_R_put_19 (by decide) ?_
    refine lv_istore (lv' := [(4, .int (0 : Int32)), (0, .ref b0), (1, .int y1_19), (2, .int y2_19), (3, .int y3_19)]) hx hb d_R_put_20 hl (by decide) rfl (fun ls hl => ?_)
    exact lp_22 y1_19 y2_19 y3_19 (0 : Int32) mcd_19 mL_19 H locs ls hP hD hS (lv_sub hl [1, 2, 3, 4, 0] rfl) h
  unfold wqR_put at h
  refine lv_aload_n hx hb d_R_put_0 rfl (lv_at hl 0 rfl) ?_
  refine lv_iload_n hx hb d_R_put_1 rfl (lv_at hl 1 rfl) ?_
  refine rq_calli (W.runV (As := [.int a1]) (rest := []) ⟨hx, hb, hml, hown, hw⟩ (mR_hasSlots l dC dI cI cZ b0 bR bI bC bY bZ bF bL bN bX bT mcd mwd men mR mI mC mY mZ mF mmd mhi mL mN mfr mX mT mct mtk a1 _ h) (cwV 1 hw g_R_120 rfl rfl rfl (by decide +kernel) ⟨Nat.le_of_ble_eq_true rfl, Nat.le_of_ble_eq_true rfl⟩) (ro_PV (ci := 2) (q0 := 0) hK hP rfl rfl) rfl rfl hl.1 rfl (lv_room (Nat.le_of_ble_eq_true rfl)) d_R_put_2 ⟨Nat.le_of_ble_eq_true rfl, Nat.le_of_ble_eq_true rfl⟩) (fun r2 h => ?_)
  refine lv_if_eq (tgt := 19) hx hb d_R_put_5 (by decide) (fun c_5 => ?_) (fun c_5 => ?_)
  · have h := h.1 c_5
    exact lp_19 a1 a2 a3 mcd mL s.heap [] ls hP hD hS (lv_sub hl [0, 1, 2, 3] rfl) h
  · have h := h.2 c_5
    refine lv_iload_n hx hb d_R_put_8 rfl (lv_at hl 3 rfl) ?_
    refine rq_calli (W.runS (As := [.int a3]) (rest := []) ⟨hx, hb, hml, hown, hw⟩ (mR_isRegister l a3 _ h) (va_cwS 1 hw g_R_52 rfl rfl rfl (by decide +kernel) ⟨Nat.le_of_ble_eq_true rfl, Nat.le_of_ble_eq_true rfl⟩) preEq rfl rfl hl.1 rfl (lv_room (Nat.le_of_ble_eq_true rfl)) d_R_put_9 ⟨Nat.le_of_ble_eq_true rfl, Nat.le_of_ble_eq_true rfl⟩) (fun r9 h => ?_)
    refine lv_if_eq (tgt := 19) hx hb d_R_put_12 (by decide) (fun c_12 => ?_) (fun c_12 => ?_)
    · have h := h.1 c_12
      exact lp_19 a1 a2 a3 mcd mL s.heap [] ls hP hD hS (lv_sub hl [0, 1, 2, 3] rfl) h
    · have h := h.2 c_12
      refine lv_iconst (v := (1 : Int32)) hx hb d_R_put_15 (by decide) ?_
      refine lv_goto (tgt := 20) hx hb d_R_put_16 (by decide) ?_
      refine lv_istore (lv' := [(4, .int (1 : Int32)), (0, .ref b0), (1, .int a1), (2, .int a2), (3, .int a3)]) hx hb d_R_put_20 hl (by decide) rfl (fun ls hl => ?_)
      exact lp_22 a1 a2 a3 (1 : Int32) mcd mL s.heap [] ls hP hD hS (lv_sub hl [1, 2, 3, 4, 0] rfl) h
def wqR_walk_39 (mY : Nat → Int32) (mZ : Nat → Int32) (mF : Nat → Int32) (mL : Nat → Int32) (mN : Nat → Int32) (y1_39 : Int32) (y2_39 : Int32) (y3_39 : Int32) (mcdf_39 : Int32) (post : Int32 → Int32 → (Nat → Int32) → Prop) (kx : Int32 → (Nat → Int32) → Prop) : Nat → Int32 → (Nat → Int32) → Prop
  | 0, _, _ => False
  | n + 1, x4_39, mR_39 =>
    (y3_39 ≤ x4_39 → (kx x4_39 mR_39)) ∧ (¬ (y3_39 ≤ x4_39) → (wqR_hasSlots mR_39 mY y1_39 (fun r47 => (r47 = 0 → (kx x4_39 mR_39)) ∧ (¬ (r47 = 0) → ((y2_39 < 0 → (kx x4_39 mR_39)) ∧ (¬ (y2_39 < 0) → (wqR_sizeOf mR_39 mZ y1_39 (fun r60 => (r60 ≤ y2_39 → (kx x4_39 mR_39)) ∧ (¬ (r60 ≤ y2_39) → (vp_in y1_39 32 ∧ (wqR_placeOf (mR_39 y1_39.toNatClampNeg) (fun r82 => wqR_cellAt mF mN r82 y2_39 (fun r86 => vp_in r86 65536 ∧ (vp_in y1_39 32 ∧ (wqR_walk_39 mY mZ mF mL mN y1_39 y2_39 y3_39 mcdf_39 post kx n (x4_39 + (1 : Int32)) (upd mR_39 y1_39.toNatClampNeg (mL r86.toNatClampNeg)))))))))))))))))
def wqR_walk_27 (mY : Nat → Int32) (mZ : Nat → Int32) (mF : Nat → Int32) (mL : Nat → Int32) (mN : Nat → Int32) (y1_27 : Int32) (y2_27 : Int32) (y3_27 : Int32) (mcd_27 : Int32) (mR_27 : Nat → Int32) (post : Int32 → Int32 → (Nat → Int32) → Prop) : Prop :=
  (mcd_27 ≤ 0 → (∃ k_39, wqR_walk_39 mY mZ mF mL mN y1_27 y2_27 y3_27 mcd_27 post (fun z4_39 mRe_39 => post z4_39 mcd_27 mRe_39) k_39 (0 : Int32) mR_27)) ∧ (¬ (mcd_27 ≤ 0) → (post (0 : Int32) mcd_27 mR_27))
def wqR_walk (mcd : Int32) (mR : Nat → Int32) (mY : Nat → Int32) (mZ : Nat → Int32) (mF : Nat → Int32) (mL : Nat → Int32) (mN : Nat → Int32) (a1 : Int32) (a2 : Int32) (a3 : Int32) (post : Int32 → Int32 → (Nat → Int32) → Prop) : Prop :=
  wqR_isRegister a1 (fun r2 => (r2 = 0 → (wqR_walk_27 mY mZ mF mL mN a1 a2 a3 (1 : Int32) mR post)) ∧ (¬ (r2 = 0) → ((a3 < 0 → (wqR_walk_27 mY mZ mF mL mN a1 a2 a3 (1 : Int32) mR post)) ∧ (¬ (a3 < 0) → (((10000 : Int32) < a3 → (wqR_walk_27 mY mZ mF mL mN a1 a2 a3 (1 : Int32) mR post)) ∧ (¬ ((10000 : Int32) < a3) → (wqR_walk_27 mY mZ mF mL mN a1 a2 a3 (0 : Int32) mR post)))))))
set_option maxHeartbeats 4000000 in
set_option maxRecDepth 100000 in
theorem mR_walk (l : Launch) (dC : Nat → ClassId) (dI : Nat → Nat → Nat) (cI : ClassId) (cZ : ClassId) (b0 : Nat) (bR : Nat) (bI : Nat) (bC : Nat) (bY : Nat) (bZ : Nat) (bF : Nat) (bL : Nat) (bN : Nat) (bX : Nat) (bT : Nat) (sz : Nat) (mcd : Int32) (mwd : Int32) (men : Int32) (mR : Nat → Int32) (mI : Nat → Int32) (mC : Nat → Int32) (mY : Nat → Int32) (mZ : Nat → Int32) (mF : Nat → Int32) (mmd : Int32) (mhi : Int32) (mL : Nat → Int32) (mN : Nat → Int32) (mfr : Int32) (mX : Nat → Int32) (mT : Nat → Int32) (mct : Int32) (mtk : Int32) (a1 : Int32) (a2 : Int32) (a3 : Int32) (post : Int32 → Int32 → (Nat → Int32) → Prop) (h : wqR_walk mcd mR mY mZ mF mL mN a1 a2 a3 post) : Met l y_R_walk ws_R_walk ({ frames := 3, cells := 0, slots := 0, locals := 62 }) (rw_P (dC, dI) vwCl (RSw cI cZ b0 bR bI bC bY bZ bF bL bN bX bT mcd mwd men mR mI mC mY mZ mF mmd mhi mL mN mfr mX mT mct mtk) [(cI, .int), (cZ, .boolean)] sz [.ref b0, .int a1, .int a2, .int a3]) (va_Qi (fun (r : Int32) (u : Int32 × (Nat → Int32)) => post r u.1 u.2) (rw_B (dC, dI) vwCl [(cI, .int), (cZ, .boolean)] (va_A (RSw cI cZ b0 bR bI bC bY bZ bF bL bN bX bT mcd mwd men mR mI mC mY mZ mF mmd mhi mL mN mfr mX mT mct mtk) sz) (fun u : Int32 × (Nat → Int32) => RSw cI cZ b0 bR bI bC bY bZ bF bL bN bX bT u.1 mwd men u.2 mI mC mY mZ mF mmd mhi mL mN mfr mX mT mct mtk)) (va_A (RSw cI cZ b0 bR bI bC bY bZ bF bL bN bX bT mcd mwd men mR mI mC mY mZ mF mmd mhi mL mN mfr mX mT mct mtk) sz)) 0 0 (va_A (RSw cI cZ b0 bR bI bC bY bZ bF bL bN bX bT mcd mwd men mR mI mC mY mZ mF mmd mhi mL mN mfr mX mT mct mtk) sz) := by
  refine Met.ofW (cc := c_R_walk) (maxL := 5) (ret := (some .int)) (by decide) rfl ?_
  intro p e s m args below meth c s₁ B hml hv
  obtain ⟨rfl, hsz, hP, hK, hD0⟩ := hv
  have hx := B.exec
  have hb := B.bytes
  have hr9 := B.returns
  have hts := atoms_spec (ws := ws_R_walk) B.pre
  have hw : ∀ w ∈ WB_, w.before _ s = true := fun w h => hts w (List.mem_cons_of_mem _ h)
  have hown : s.vm.findClass R_R = some m.cls := findClass_of_methodNamed B.named
  have hlocks := B.notSynchronized
  subst hsz
  have hD := hD0.self (sz := s.heap.size)
  generalize hAe : va_A (RSw cI cZ b0 bR bI bC bY bZ bF bL bN bX bT mcd mwd men mR mI mC mY mZ mF mmd mhi mL mN mfr mX mT mct mtk) s.heap.size = A at hD ⊢
  have hA : ∀ q : Nat, s.heap.size ≤ q → A q := fun q h => by rw [← hAe]; exact Or.inr h
  have hS : va_S A s.heap s.heap [] := va_S.rf
  have hl := lv_entry ([.ref b0, .int a1, .int a2, .int a3]) (n := 5) (Nat.le_of_ble_eq_true rfl)
  rw [lg_entry_eq]
  generalize (lg_sl ([.ref b0, .int a1, .int a2, .int a3]) ++ List.replicate (5 - (lg_sl ([.ref b0, .int a1, .int a2, .int a3])).length) Slot.unset).toArray = ls at hl ⊢
  have hl : lv_has ls 5 [(0, .ref b0), (1, .int a1), (2, .int a2), (3, .int a3)] := hl
  have lp_39 : ∀ (y1_39 : Int32) (y2_39 : Int32) (y3_39 : Int32) (mcdf_39 : Int32) (kx : Int32 → (Nat → Int32) → Prop), (∀ (z4_39 : Int32) (mRe_39 : Nat → Int32) (H : Heap) (locs : List Loc) (ls : Array Slot), va_P (dC, dI) vwCl (RSw cI cZ b0 bR bI bC bY bZ bF bL bN bX bT mcdf_39 mwd men mRe_39 mI mC mY mZ mF mmd mhi mL mN mfr mX mT mct mtk) H → va_D A (RSw cI cZ b0 bR bI bC bY bZ bF bL bN bX bT mcdf_39 mwd men mRe_39 mI mC mY mZ mF mmd mhi mL mN mfr mX mT mct mtk) → va_S A s.heap H locs → lv_has ls 5 [(0, .ref b0), (1, .int y1_39), (2, .int y2_39), (3, .int y3_39), (4, .int z4_39)] → kx z4_39 mRe_39 → W p l e (headSpec ws_R_walk ({ frames := 3, cells := 0, slots := 0, locals := 62 })).room s m ([.ref b0, .int a1, .int a2, .int a3] : List Value).toArray below meth c H locs (0) (0) (MQ below (va_Qi (fun (r : Int32) (u : Int32 × (Nat → Int32)) => post r u.1 u.2) (rw_B (dC, dI) vwCl [(cI, .int), (cZ, .boolean)] A (fun u : Int32 × (Nat → Int32) => RSw cI cZ b0 bR bI bC bY bZ bF bL bN bX bT u.1 mwd men u.2 mI mC mY mZ mF mmd mhi mL mN mfr mX mT mct mtk)) A) ([.ref b0, .int a1, .int a2, .int a3] : List Value).toArray s 0 0 A) (F0 m 100 ls [])) → ∀ (n : Nat) (x4_39 : Int32) (mR_39 : Nat → Int32) (H : Heap) (locs : List Loc) (ls : Array Slot), va_P (dC, dI) vwCl (RSw cI cZ b0 bR bI bC bY bZ bF bL bN bX bT mcdf_39 mwd men mR_39 mI mC mY mZ mF mmd mhi mL mN mfr mX mT mct mtk) H → va_D A (RSw cI cZ b0 bR bI bC bY bZ bF bL bN bX bT mcdf_39 mwd men mR_39 mI mC mY mZ mF mmd mhi mL mN mfr mX mT mct mtk) → va_S A s.heap H locs → lv_has ls 5 [(0, .ref b0), (1, .int y1_39), (2, .int y2_39), (3, .int y3_39), (4, .int x4_39)] → wqR_walk_39 mY mZ mF mL mN y1_39 y2_39 y3_39 mcdf_39 post kx n x4_39 mR_39 → W p l e (headSpec ws_R_walk ({ frames := 3, cells := 0, slots := 0, locals := 62 })).room s m ([.ref b0, .int a1, .int a2, .int a3] : List Value).toArray below meth c H locs (0) (0) (MQ below (va_Qi (fun (r : Int32) (u : Int32 × (Nat → Int32)) => post r u.1 u.2) (rw_B (dC, dI) vwCl [(cI, .int), (cZ, .boolean)] A (fun u : Int32 × (Nat → Int32) => RSw cI cZ b0 bR bI bC bY bZ bF bL bN bX bT u.1 mwd men u.2 mI mC mY mZ mF mmd mhi mL mN mfr mX mT mct mtk)) A) ([.ref b0, .int a1, .int a2, .int a3] : List Value).toArray s 0 0 A) (F0 m 39 ls []) := by
    intro y1_39 y2_39 y3_39 mcdf_39 kx K n
    induction n with
    | zero => intro x4_39 mR_39 H locs ls hP hD hS hl h; exact h.elim
    | succ n ih =>
      intro x4_39 mR_39 H locs ls hP hD hS hl h
      refine lv_iload hx hb d_R_walk_39 (lv_at hl 4 rfl) ?_
      refine lv_iload_n hx hb d_R_walk_41 rfl (lv_at hl 3 rfl) ?_
      refine lv_icmp_ge (tgt := 100) hx hb d_R_walk_42 (by decide) (fun c_42 => ?_) (fun c_42 => ?_)
      · have h := h.1 c_42
        exact K x4_39 mR_39 H locs ls hP hD hS (lv_sub hl [0, 1, 2, 3, 4] rfl) h
      · have h := h.2 c_42
        refine lv_aload_n hx hb d_R_walk_45 rfl (lv_at hl 0 rfl) ?_
        refine lv_iload_n hx hb d_R_walk_46 rfl (lv_at hl 1 rfl) ?_
        refine rq_calli (W.runV (As := [.int y1_39]) (rest := []) ⟨hx, hb, hml, hown, hw⟩ (mR_hasSlots l dC dI cI cZ b0 bR bI bC bY bZ bF bL bN bX bT mcdf_39 mwd men mR_39 mI mC mY mZ mF mmd mhi mL mN mfr mX mT mct mtk y1_39 _ h) (cwV 1 hw g_R_120 rfl rfl rfl (by decide +kernel) ⟨Nat.le_of_ble_eq_true rfl, Nat.le_of_ble_eq_true rfl⟩) (ro_PV (ci := 2) (q0 := 0) hK hP rfl rfl) rfl rfl hl.1 rfl (lv_room (Nat.le_of_ble_eq_true rfl)) d_R_walk_47 ⟨Nat.le_of_ble_eq_true rfl, Nat.le_of_ble_eq_true rfl⟩) (fun r47 h => ?_)
        refine lv_if_eq (tgt := 100) hx hb d_R_walk_50 (by decide) (fun c_50 => ?_) (fun c_50 => ?_)
        · have h := h.1 c_50
          exact K x4_39 mR_39 H locs ls hP hD hS (lv_sub hl [0, 1, 2, 3, 4] rfl) h
        · have h := h.2 c_50
          refine lv_iload_n hx hb d_R_walk_53 rfl (lv_at hl 2 rfl) ?_
          refine lv_if_lt (tgt := 100) hx hb d_R_walk_54 (by decide) (fun c_54 => ?_) (fun c_54 => ?_)
          · have h := h.1 c_54
            exact K x4_39 mR_39 H locs ls hP hD hS (lv_sub hl [0, 1, 2, 3, 4] rfl) h
          · have h := h.2 c_54
            refine lv_iload_n hx hb d_R_walk_57 rfl (lv_at hl 2 rfl) ?_
            refine lv_aload_n hx hb d_R_walk_58 rfl (lv_at hl 0 rfl) ?_
            refine lv_iload_n hx hb d_R_walk_59 rfl (lv_at hl 1 rfl) ?_
            refine rq_calli (W.runV (As := [.int y1_39]) (rest := [.int y2_39]) ⟨hx, hb, hml, hown, hw⟩ (mR_sizeOf l dC dI cI cZ b0 bR bI bC bY bZ bF bL bN bX bT mcdf_39 mwd men mR_39 mI mC mY mZ mF mmd mhi mL mN mfr mX mT mct mtk y1_39 _ h) (cwV 1 hw g_R_114 rfl rfl rfl (by decide +kernel) ⟨Nat.le_of_ble_eq_true rfl, Nat.le_of_ble_eq_true rfl⟩) (ro_PV (ci := 2) (q0 := 0) hK hP rfl rfl) rfl rfl hl.1 rfl (lv_room (Nat.le_of_ble_eq_true rfl)) d_R_walk_60 ⟨Nat.le_of_ble_eq_true rfl, Nat.le_of_ble_eq_true rfl⟩) (fun r60 h => ?_)
            refine lv_icmp_ge (tgt := 100) hx hb d_R_walk_63 (by decide) (fun c_63 => ?_) (fun c_63 => ?_)
            · have h := h.1 c_63
              exact K x4_39 mR_39 H locs ls hP hD hS (lv_sub hl [0, 1, 2, 3, 4] rfl) h
            · have h := h.2 c_63
              refine lv_aload_n hx hb d_R_walk_66 rfl (lv_at hl 0 rfl) ?_
              refine va_get (D := (dC, dI)) (ci := 2) (v := .ref bR) (C := R_R) (T := T_R) (N := 18) hx hb hw in_R hown hK hP 0 rfl rfl 3 (by decide) (hw _ wd_619) (fun _ h9 => h9) rfl d_R_walk_67 ?_
              refine lv_iload_n hx hb d_R_walk_70 rfl (lv_at hl 1 rfl) ?_
              refine lv_aload_n hx hb d_R_walk_71 rfl (lv_at hl 0 rfl) ?_
              refine va_get (D := (dC, dI)) (ci := 2) (v := .ref bL) (C := R_R) (T := T_R) (N := 18) hx hb hw in_R hown hK hP 0 rfl rfl 11 (by decide) (hw _ wd_627) (fun _ h9 => h9) rfl d_R_walk_72 ?_
              refine lv_aload_n hx hb d_R_walk_75 rfl (lv_at hl 0 rfl) ?_
              refine lv_aload_n hx hb d_R_walk_76 rfl (lv_at hl 0 rfl) ?_
              refine va_get (D := (dC, dI)) (ci := 2) (v := .ref bR) (C := R_R) (T := T_R) (N := 18) hx hb hw in_R hown hK hP 0 rfl rfl 3 (by decide) (hw _ wd_619) (fun _ h9 => h9) rfl d_R_walk_77 ?_
              refine lv_iload_n hx hb d_R_walk_80 rfl (lv_at hl 1 rfl) ?_
              refine va_iald hx hb hK hP 1 0 rfl rfl h.1 d_R_walk_81 ?_
              have h := h.2
              refine rq_calli (W.runS (As := [.int (mR_39 y1_39.toNatClampNeg)]) (rest := [.ref b0, .ref bL, .int y1_39, .ref bR]) ⟨hx, hb, hml, hown, hw⟩ (mR_placeOf l (mR_39 y1_39.toNatClampNeg) _ h) (va_cwS 1 hw g_R_62 rfl rfl rfl (by decide +kernel) ⟨Nat.le_of_ble_eq_true rfl, Nat.le_of_ble_eq_true rfl⟩) preEq rfl rfl hl.1 rfl (lv_room (Nat.le_of_ble_eq_true rfl)) d_R_walk_82 ⟨Nat.le_of_ble_eq_true rfl, Nat.le_of_ble_eq_true rfl⟩) (fun r82 h => ?_)
              refine lv_iload_n hx hb d_R_walk_85 rfl (lv_at hl 2 rfl) ?_
              refine rq_calli (W.runV (As := [.int r82, .int y2_39]) (rest := [.ref bL, .int y1_39, .ref bR]) ⟨hx, hb, hml, hown, hw⟩ (mR_cellAt l dC dI cI cZ b0 bR bI bC bY bZ bF bL bN bX bT mcdf_39 mwd men mR_39 mI mC mY mZ mF mmd mhi mL mN mfr mX mT mct mtk r82 y2_39 _ h) (cwV 2 hw g_R_123 rfl rfl rfl (by decide +kernel) ⟨Nat.le_of_ble_eq_true rfl, Nat.le_of_ble_eq_true rfl⟩) (ro_PV (ci := 2) (q0 := 0) hK hP rfl rfl) rfl rfl hl.1 rfl (lv_room (Nat.le_of_ble_eq_true rfl)) d_R_walk_86 ⟨Nat.le_of_ble_eq_true rfl, Nat.le_of_ble_eq_true rfl⟩) (fun r86 h => ?_)
              refine va_iald hx hb hK hP 7 0 rfl rfl h.1 d_R_walk_89 ?_
              have h := h.2
              refine va_iast hx hb hK hP hD hS 1 0 rfl rfl h.1 d_R_walk_90 (fun H locs hP hD hS => ?_)
              have hP : va_P (dC, dI) vwCl (RSw cI cZ b0 bR bI bC bY bZ bF bL bN bX bT mcdf_39 mwd men (upd mR_39 y1_39.toNatClampNeg (mL r86.toNatClampNeg)) mI mC mY mZ mF mmd mhi mL mN mfr mX mT mct mtk) H := hP
              have hD : va_D A (RSw cI cZ b0 bR bI bC bY bZ bF bL bN bX bT mcdf_39 mwd men (upd mR_39 y1_39.toNatClampNeg (mL r86.toNatClampNeg)) mI mC mY mZ mF mmd mhi mL mN mfr mX mT mct mtk) := hD
              have h := h.2
              refine lv_iload hx hb d_R_walk_91 (lv_at hl 4 rfl) ?_
              refine lv_iconst (v := (1 : Int32)) hx hb d_R_walk_93 (by decide) ?_
              refine lv_iadd hx hb d_R_walk_94 ?_
              refine lv_istore (lv' := [(4, .int (x4_39 + (1 : Int32))), (0, .ref b0), (1, .int y1_39), (2, .int y2_39), (3, .int y3_39)]) hx hb d_R_walk_95 hl (by decide) rfl (fun ls hl => ?_)
              refine lv_goto (tgt := 39) hx hb d_R_walk_97 (by decide) ?_
              exact ih (x4_39 + (1 : Int32)) (upd mR_39 y1_39.toNatClampNeg (mL r86.toNatClampNeg)) H locs ls hP hD hS (lv_sub hl [1, 2, 3, 4, 0] rfl) h
  have lp_27 : ∀ (y1_27 : Int32) (y2_27 : Int32) (y3_27 : Int32) (mcd_27 : Int32) (mR_27 : Nat → Int32) (H : Heap) (locs : List Loc) (ls : Array Slot), va_P (dC, dI) vwCl (RSw cI cZ b0 bR bI bC bY bZ bF bL bN bX bT mcd_27 mwd men mR_27 mI mC mY mZ mF mmd mhi mL mN mfr mX mT mct mtk) H → va_D A (RSw cI cZ b0 bR bI bC bY bZ bF bL bN bX bT mcd_27 mwd men mR_27 mI mC mY mZ mF mmd mhi mL mN mfr mX mT mct mtk) → va_S A s.heap H locs → lv_has ls 5 [(0, .ref b0), (1, .int y1_27), (2, .int y2_27), (3, .int y3_27)] → wqR_walk_27 mY mZ mF mL mN y1_27 y2_27 y3_27 mcd_27 mR_27 post → W p l e (headSpec ws_R_walk ({ frames := 3, cells := 0, slots := 0, locals := 62 })).room s m ([.ref b0, .int a1, .int a2, .int a3] : List Value).toArray below meth c H locs (0) (0) (MQ below (va_Qi (fun (r : Int32) (u : Int32 × (Nat → Int32)) => post r u.1 u.2) (rw_B (dC, dI) vwCl [(cI, .int), (cZ, .boolean)] A (fun u : Int32 × (Nat → Int32) => RSw cI cZ b0 bR bI bC bY bZ bF bL bN bX bT u.1 mwd men u.2 mI mC mY mZ mF mmd mhi mL mN mfr mX mT mct mtk)) A) ([.ref b0, .int a1, .int a2, .int a3] : List Value).toArray s 0 0 A) (F0 m 27 ls []) := by
    intro y1_27 y2_27 y3_27 mcd_27 mR_27 H locs ls hP hD hS hl h
    unfold wqR_walk_27 at h
    refine lv_aload_n hx hb d_R_walk_27 rfl (lv_at hl 0 rfl) ?_
    refine va_get (D := (dC, dI)) (ci := 2) (v := .int mcd_27) (C := R_R) (T := T_R) (N := 18) hx hb hw in_R hown hK hP 0 rfl rfl 0 (by decide) (hw _ wd_616) (fun _ h9 => h9) rfl d_R_walk_28 ?_
    refine lv_if_le (tgt := 36) hx hb d_R_walk_31 (by decide) (fun c_31 => ?_) (fun c_31 => ?_)
    · have h := h.1 c_31
      refine lv_iconst (v := (0 : Int32)) hx hb d_R_walk_36 (by decide) ?_
      refine lv_istore (lv' := [(4, .int (0 : Int32)), (0, .ref b0), (1, .int y1_27), (2, .int y2_27), (3, .int y3_27)]) hx hb d_R_walk_37 hl (by decide) rfl (fun ls hl => ?_)
      obtain ⟨n_39, h⟩ := h
      refine lp_39 y1_27 y2_27 y3_27 mcd_27 _ (fun z4_39 mRe_39 H locs ls hP hD hS hl h => ?_) n_39 (0 : Int32) mR_27 H locs ls hP hD hS (lv_sub hl [1, 2, 3, 4, 0] rfl) h
      refine lv_iload hx hb d_R_walk_100 (lv_at hl 4 rfl) ?_
      exact W.iret (v := z4_39) hx hb hr9 (fun t ht hW => ⟨⟨_, (mcd_27, mRe_39), rfl, h, by rw [ht]; exact hP, va_K.moved hW.alike hK, hD⟩, hS.F ht⟩) hS.2.2 d_R_walk_102
    · have h := h.2 c_31
      refine lv_iconst (v := (0 : Int32)) hx hb d_R_walk_34 (by decide) ?_
      exact W.iret (v := (0 : Int32)) hx hb hr9 (fun t ht hW => ⟨⟨_, (mcd_27, mR_27), rfl, h, by rw [ht]; exact hP, va_K.moved hW.alike hK, hD⟩, hS.F ht⟩) hS.2.2 d_R_walk_35
  unfold wqR_walk at h
  refine lv_aload_n hx hb d_R_walk_0 rfl (lv_at hl 0 rfl) ?_
  refine lv_iload_n hx hb d_R_walk_1 rfl (lv_at hl 1 rfl) ?_
  refine rq_calli (W.runS (As := [.int a1]) (rest := [.ref b0]) ⟨hx, hb, hml, hown, hw⟩ (mR_isRegister l a1 _ h) (va_cwS 1 hw g_R_52 rfl rfl rfl (by decide +kernel) ⟨Nat.le_of_ble_eq_true rfl, Nat.le_of_ble_eq_true rfl⟩) preEq rfl rfl hl.1 rfl (lv_room (Nat.le_of_ble_eq_true rfl)) d_R_walk_2 ⟨Nat.le_of_ble_eq_true rfl, Nat.le_of_ble_eq_true rfl⟩) (fun r2 h => ?_)
  refine lv_if_eq (tgt := 23) hx hb d_R_walk_5 (by decide) (fun c_5 => ?_) (fun c_5 => ?_)
  · have h := h.1 c_5
    refine lv_iconst (v := (1 : Int32)) hx hb d_R_walk_23 (by decide) ?_
    refine va_put (D := (dC, dI)) (ci := 2) (v := .int (1 : Int32)) (ty := .int) (C := R_R) (T := T_R) (N := 18) hx hb hw in_R ty_R ty_R_ok nm_R hown hK hP hD hS 0 rfl rfl 0 (by decide) (hw _ wd_616) (fun _ h9 => h9) rfl (by decide +kernel) rfl rfl (Nat.le_of_ble_eq_true rfl) d_R_walk_24 (fun H locs hP hD hS => ?_)
    have hP : va_P (dC, dI) vwCl (RSw cI cZ b0 bR bI bC bY bZ bF bL bN bX bT (1 : Int32) mwd men mR mI mC mY mZ mF mmd mhi mL mN mfr mX mT mct mtk) H := hP
    have hD : va_D A (RSw cI cZ b0 bR bI bC bY bZ bF bL bN bX bT (1 : Int32) mwd men mR mI mC mY mZ mF mmd mhi mL mN mfr mX mT mct mtk) := hD
    exact lp_27 a1 a2 a3 (1 : Int32) mR H locs ls hP hD hS (lv_sub hl [0, 1, 2, 3] rfl) h
  · have h := h.2 c_5
    refine lv_iload_n hx hb d_R_walk_8 rfl (lv_at hl 3 rfl) ?_
    refine lv_if_lt (tgt := 23) hx hb d_R_walk_9 (by decide) (fun c_9 => ?_) (fun c_9 => ?_)
    · have h := h.1 c_9
      refine lv_iconst (v := (1 : Int32)) hx hb d_R_walk_23 (by decide) ?_
      refine va_put (D := (dC, dI)) (ci := 2) (v := .int (1 : Int32)) (ty := .int) (C := R_R) (T := T_R) (N := 18) hx hb hw in_R ty_R ty_R_ok nm_R hown hK hP hD hS 0 rfl rfl 0 (by decide) (hw _ wd_616) (fun _ h9 => h9) rfl (by decide +kernel) rfl rfl (Nat.le_of_ble_eq_true rfl) d_R_walk_24 (fun H locs hP hD hS => ?_)
      have hP : va_P (dC, dI) vwCl (RSw cI cZ b0 bR bI bC bY bZ bF bL bN bX bT (1 : Int32) mwd men mR mI mC mY mZ mF mmd mhi mL mN mfr mX mT mct mtk) H := hP
      have hD : va_D A (RSw cI cZ b0 bR bI bC bY bZ bF bL bN bX bT (1 : Int32) mwd men mR mI mC mY mZ mF mmd mhi mL mN mfr mX mT mct mtk) := hD
      exact lp_27 a1 a2 a3 (1 : Int32) mR H locs ls hP hD hS (lv_sub hl [0, 1, 2, 3] rfl) h
    · have h := h.2 c_9
      refine lv_iload_n hx hb d_R_walk_12 rfl (lv_at hl 3 rfl) ?_
      refine lv_sipush (v := (10000 : Int32)) hx hb d_R_walk_13 (by decide) ?_
      refine lv_icmp_gt (tgt := 23) hx hb d_R_walk_16 (by decide) (fun c_16 => ?_) (fun c_16 => ?_)
      · have h := h.1 c_16
        refine lv_iconst (v := (1 : Int32)) hx hb d_R_walk_23 (by decide) ?_
        refine va_put (D := (dC, dI)) (ci := 2) (v := .int (1 : Int32)) (ty := .int) (C := R_R) (T := T_R) (N := 18) hx hb hw in_R ty_R ty_R_ok nm_R hown hK hP hD hS 0 rfl rfl 0 (by decide) (hw _ wd_616) (fun _ h9 => h9) rfl (by decide +kernel) rfl rfl (Nat.le_of_ble_eq_true rfl) d_R_walk_24 (fun H locs hP hD hS => ?_)
        have hP : va_P (dC, dI) vwCl (RSw cI cZ b0 bR bI bC bY bZ bF bL bN bX bT (1 : Int32) mwd men mR mI mC mY mZ mF mmd mhi mL mN mfr mX mT mct mtk) H := hP
        have hD : va_D A (RSw cI cZ b0 bR bI bC bY bZ bF bL bN bX bT (1 : Int32) mwd men mR mI mC mY mZ mF mmd mhi mL mN mfr mX mT mct mtk) := hD
        exact lp_27 a1 a2 a3 (1 : Int32) mR H locs ls hP hD hS (lv_sub hl [0, 1, 2, 3] rfl) h
      · have h := h.2 c_16
        refine lv_iconst (v := (0 : Int32)) hx hb d_R_walk_19 (by decide) ?_
        refine lv_goto (tgt := 24) hx hb d_R_walk_20 (by decide) ?_
        refine va_put (D := (dC, dI)) (ci := 2) (v := .int (0 : Int32)) (ty := .int) (C := R_R) (T := T_R) (N := 18) hx hb hw in_R ty_R ty_R_ok nm_R hown hK hP hD hS 0 rfl rfl 0 (by decide) (hw _ wd_616) (fun _ h9 => h9) rfl (by decide +kernel) rfl rfl (Nat.le_of_ble_eq_true rfl) d_R_walk_24 (fun H locs hP hD hS => ?_)
        have hP : va_P (dC, dI) vwCl (RSw cI cZ b0 bR bI bC bY bZ bF bL bN bX bT (0 : Int32) mwd men mR mI mC mY mZ mF mmd mhi mL mN mfr mX mT mct mtk) H := hP
        have hD : va_D A (RSw cI cZ b0 bR bI bC bY bZ bF bL bN bX bT (0 : Int32) mwd men mR mI mC mY mZ mF mmd mhi mL mN mfr mX mT mct mtk) := hD
        exact lp_27 a1 a2 a3 (0 : Int32) mR H locs ls hP hD hS (lv_sub hl [0, 1, 2, 3] rfl) h
def wqR_classOf_24 (mC : Nat → Int32) (y1_24 : Int32) (y2_24 : Int32) (mcd_24 : Int32) (mR_24 : Nat → Int32) (post : Int32 → (Nat → Int32) → Prop) : Prop :=
  (mcd_24 = 0 → (vp_in y2_24 32 ∧ (wqR_placeOf (mR_24 y2_24.toNatClampNeg) (fun r46 => vp_in r46 8192 ∧ (vp_in y1_24 32 ∧ (post mcd_24 (upd mR_24 y1_24.toNatClampNeg (mC r46.toNatClampNeg)))))))) ∧ (¬ (mcd_24 = 0) → (post mcd_24 mR_24))
def wqR_classOf (mcd : Int32) (mR : Nat → Int32) (mC : Nat → Int32) (a1 : Int32) (a2 : Int32) (post : Int32 → (Nat → Int32) → Prop) : Prop :=
  wqR_isRegister a1 (fun r2 => (r2 = 0 → (wqR_classOf_24 mC a1 a2 (1 : Int32) mR post)) ∧ (¬ (r2 = 0) → (wqR_has mR a2 (fun r10 => (r10 = 0 → (wqR_classOf_24 mC a1 a2 (1 : Int32) mR post)) ∧ (¬ (r10 = 0) → (wqR_classOf_24 mC a1 a2 (0 : Int32) mR post))))))
set_option maxHeartbeats 4000000 in
set_option maxRecDepth 100000 in
theorem mR_classOf (l : Launch) (dC : Nat → ClassId) (dI : Nat → Nat → Nat) (cI : ClassId) (cZ : ClassId) (b0 : Nat) (bR : Nat) (bI : Nat) (bC : Nat) (bY : Nat) (bZ : Nat) (bF : Nat) (bL : Nat) (bN : Nat) (bX : Nat) (bT : Nat) (sz : Nat) (mcd : Int32) (mwd : Int32) (men : Int32) (mR : Nat → Int32) (mI : Nat → Int32) (mC : Nat → Int32) (mY : Nat → Int32) (mZ : Nat → Int32) (mF : Nat → Int32) (mmd : Int32) (mhi : Int32) (mL : Nat → Int32) (mN : Nat → Int32) (mfr : Int32) (mX : Nat → Int32) (mT : Nat → Int32) (mct : Int32) (mtk : Int32) (a1 : Int32) (a2 : Int32) (post : Int32 → (Nat → Int32) → Prop) (h : wqR_classOf mcd mR mC a1 a2 post) : Met l y_R_classOf ws_R_classOf ({ frames := 2, cells := 0, slots := 0, locals := 41 }) (rw_P (dC, dI) vwCl (RSw cI cZ b0 bR bI bC bY bZ bF bL bN bX bT mcd mwd men mR mI mC mY mZ mF mmd mhi mL mN mfr mX mT mct mtk) [(cI, .int), (cZ, .boolean)] sz [.ref b0, .int a1, .int a2]) (va_Qv (fun u : Int32 × (Nat → Int32) => post u.1 u.2) (rw_B (dC, dI) vwCl [(cI, .int), (cZ, .boolean)] (va_A (RSw cI cZ b0 bR bI bC bY bZ bF bL bN bX bT mcd mwd men mR mI mC mY mZ mF mmd mhi mL mN mfr mX mT mct mtk) sz) (fun u : Int32 × (Nat → Int32) => RSw cI cZ b0 bR bI bC bY bZ bF bL bN bX bT u.1 mwd men u.2 mI mC mY mZ mF mmd mhi mL mN mfr mX mT mct mtk)) (va_A (RSw cI cZ b0 bR bI bC bY bZ bF bL bN bX bT mcd mwd men mR mI mC mY mZ mF mmd mhi mL mN mfr mX mT mct mtk) sz)) 0 0 (va_A (RSw cI cZ b0 bR bI bC bY bZ bF bL bN bX bT mcd mwd men mR mI mC mY mZ mF mmd mhi mL mN mfr mX mT mct mtk) sz) := by
  refine Met.ofW (cc := c_R_classOf) (maxL := 3) (ret := none) (by decide) rfl ?_
  intro p e s m args below meth c s₁ B hml hv
  obtain ⟨rfl, hsz, hP, hK, hD0⟩ := hv
  have hx := B.exec
  have hb := B.bytes
  have hr9 := B.returns
  have hts := atoms_spec (ws := ws_R_classOf) B.pre
  have hw : ∀ w ∈ WB_, w.before _ s = true := fun w h => hts w (List.mem_cons_of_mem _ h)
  have hown : s.vm.findClass R_R = some m.cls := findClass_of_methodNamed B.named
  have hlocks := B.notSynchronized
  subst hsz
  have hD := hD0.self (sz := s.heap.size)
  generalize hAe : va_A (RSw cI cZ b0 bR bI bC bY bZ bF bL bN bX bT mcd mwd men mR mI mC mY mZ mF mmd mhi mL mN mfr mX mT mct mtk) s.heap.size = A at hD ⊢
  have hA : ∀ q : Nat, s.heap.size ≤ q → A q := fun q h => by rw [← hAe]; exact Or.inr h
  have hS : va_S A s.heap s.heap [] := va_S.rf
  have hl := lv_entry ([.ref b0, .int a1, .int a2]) (n := 3) (Nat.le_of_ble_eq_true rfl)
  rw [lg_entry_eq]
  generalize (lg_sl ([.ref b0, .int a1, .int a2]) ++ List.replicate (3 - (lg_sl ([.ref b0, .int a1, .int a2])).length) Slot.unset).toArray = ls at hl ⊢
  have hl : lv_has ls 3 [(0, .ref b0), (1, .int a1), (2, .int a2)] := hl
  have lp_24 : ∀ (y1_24 : Int32) (y2_24 : Int32) (mcd_24 : Int32) (mR_24 : Nat → Int32) (H : Heap) (locs : List Loc) (ls : Array Slot), va_P (dC, dI) vwCl (RSw cI cZ b0 bR bI bC bY bZ bF bL bN bX bT mcd_24 mwd men mR_24 mI mC mY mZ mF mmd mhi mL mN mfr mX mT mct mtk) H → va_D A (RSw cI cZ b0 bR bI bC bY bZ bF bL bN bX bT mcd_24 mwd men mR_24 mI mC mY mZ mF mmd mhi mL mN mfr mX mT mct mtk) → va_S A s.heap H locs → lv_has ls 3 [(0, .ref b0), (1, .int y1_24), (2, .int y2_24)] → wqR_classOf_24 mC y1_24 y2_24 mcd_24 mR_24 post → W p l e (headSpec ws_R_classOf ({ frames := 2, cells := 0, slots := 0, locals := 41 })).room s m ([.ref b0, .int a1, .int a2] : List Value).toArray below meth c H locs (0) (0) (MQ below (va_Qv (fun u : Int32 × (Nat → Int32) => post u.1 u.2) (rw_B (dC, dI) vwCl [(cI, .int), (cZ, .boolean)] A (fun u : Int32 × (Nat → Int32) => RSw cI cZ b0 bR bI bC bY bZ bF bL bN bX bT u.1 mwd men u.2 mI mC mY mZ mF mmd mhi mL mN mfr mX mT mct mtk)) A) ([.ref b0, .int a1, .int a2] : List Value).toArray s 0 0 A) (F0 m 24 ls []) := by
    intro y1_24 y2_24 mcd_24 mR_24 H locs ls hP hD hS hl h
    unfold wqR_classOf_24 at h
    refine lv_aload_n hx hb d_R_classOf_24 rfl (lv_at hl 0 rfl) ?_
    refine va_get (D := (dC, dI)) (ci := 2) (v := .int mcd_24) (C := R_R) (T := T_R) (N := 18) hx hb hw in_R hown hK hP 0 rfl rfl 0 (by decide) (hw _ wd_616) (fun _ h9 => h9) rfl d_R_classOf_25 ?_
    refine lv_if_ne (tgt := 51) hx hb d_R_classOf_28 (by decide) (fun c_28 => ?_) (fun c_28 => ?_)
    · have h := h.2 c_28
      exact W.vret hx hb hr9 (fun t ht hW => ⟨⟨(mcd_24, mR_24), rfl, h, by rw [ht]; exact hP, va_K.moved hW.alike hK, hD⟩, hS.F ht⟩) hS.2.2 d_R_classOf_51
    · have h := h.1 c_28
      refine lv_aload_n hx hb d_R_classOf_31 rfl (lv_at hl 0 rfl) ?_
      refine va_get (D := (dC, dI)) (ci := 2) (v := .ref bR) (C := R_R) (T := T_R) (N := 18) hx hb hw in_R hown hK hP 0 rfl rfl 3 (by decide) (hw _ wd_619) (fun _ h9 => h9) rfl d_R_classOf_32 ?_
      refine lv_iload_n hx hb d_R_classOf_35 rfl (lv_at hl 1 rfl) ?_
      refine lv_aload_n hx hb d_R_classOf_36 rfl (lv_at hl 0 rfl) ?_
      refine va_get (D := (dC, dI)) (ci := 2) (v := .ref bC) (C := R_R) (T := T_R) (N := 18) hx hb hw in_R hown hK hP 0 rfl rfl 5 (by decide) (hw _ wd_621) (fun _ h9 => h9) rfl d_R_classOf_37 ?_
      refine lv_aload_n hx hb d_R_classOf_40 rfl (lv_at hl 0 rfl) ?_
      refine va_get (D := (dC, dI)) (ci := 2) (v := .ref bR) (C := R_R) (T := T_R) (N := 18) hx hb hw in_R hown hK hP 0 rfl rfl 3 (by decide) (hw _ wd_619) (fun _ h9 => h9) rfl d_R_classOf_41 ?_
      refine lv_iload_n hx hb d_R_classOf_44 rfl (lv_at hl 2 rfl) ?_
      refine va_iald hx hb hK hP 1 0 rfl rfl h.1 d_R_classOf_45 ?_
      have h := h.2
      refine rq_calli (W.runS (As := [.int (mR_24 y2_24.toNatClampNeg)]) (rest := [.ref bC, .int y1_24, .ref bR]) ⟨hx, hb, hml, hown, hw⟩ (mR_placeOf l (mR_24 y2_24.toNatClampNeg) _ h) (va_cwS 1 hw g_R_62 rfl rfl rfl (by decide +kernel) ⟨Nat.le_of_ble_eq_true rfl, Nat.le_of_ble_eq_true rfl⟩) preEq rfl rfl hl.1 rfl (lv_room (Nat.le_of_ble_eq_true rfl)) d_R_classOf_46 ⟨Nat.le_of_ble_eq_true rfl, Nat.le_of_ble_eq_true rfl⟩) (fun r46 h => ?_)
      refine va_iald hx hb hK hP 3 0 rfl rfl h.1 d_R_classOf_49 ?_
      have h := h.2
      refine va_iast hx hb hK hP hD hS 1 0 rfl rfl h.1 d_R_classOf_50 (fun H locs hP hD hS => ?_)
      have hP : va_P (dC, dI) vwCl (RSw cI cZ b0 bR bI bC bY bZ bF bL bN bX bT mcd_24 mwd men (upd mR_24 y1_24.toNatClampNeg (mC r46.toNatClampNeg)) mI mC mY mZ mF mmd mhi mL mN mfr mX mT mct mtk) H := hP
      have hD : va_D A (RSw cI cZ b0 bR bI bC bY bZ bF bL bN bX bT mcd_24 mwd men (upd mR_24 y1_24.toNatClampNeg (mC r46.toNatClampNeg)) mI mC mY mZ mF mmd mhi mL mN mfr mX mT mct mtk) := hD
      have h := h.2
      exact W.vret hx hb hr9 (fun t ht hW => ⟨⟨(mcd_24, upd mR_24 y1_24.toNatClampNeg (mC r46.toNatClampNeg)), rfl, h, by rw [ht]; exact hP, va_K.moved hW.alike hK, hD⟩, hS.F ht⟩) hS.2.2 d_R_classOf_51
  unfold wqR_classOf at h
  refine lv_aload_n hx hb d_R_classOf_0 rfl (lv_at hl 0 rfl) ?_
  refine lv_iload_n hx hb d_R_classOf_1 rfl (lv_at hl 1 rfl) ?_
  refine rq_calli (W.runS (As := [.int a1]) (rest := [.ref b0]) ⟨hx, hb, hml, hown, hw⟩ (mR_isRegister l a1 _ h) (va_cwS 1 hw g_R_52 rfl rfl rfl (by decide +kernel) ⟨Nat.le_of_ble_eq_true rfl, Nat.le_of_ble_eq_true rfl⟩) preEq rfl rfl hl.1 rfl (lv_room (Nat.le_of_ble_eq_true rfl)) d_R_classOf_2 ⟨Nat.le_of_ble_eq_true rfl, Nat.le_of_ble_eq_true rfl⟩) (fun r2 h => ?_)
  refine lv_if_eq (tgt := 20) hx hb d_R_classOf_5 (by decide) (fun c_5 => ?_) (fun c_5 => ?_)
  · have h := h.1 c_5
    refine lv_iconst (v := (1 : Int32)) hx hb d_R_classOf_20 (by decide) ?_
    refine va_put (D := (dC, dI)) (ci := 2) (v := .int (1 : Int32)) (ty := .int) (C := R_R) (T := T_R) (N := 18) hx hb hw in_R ty_R ty_R_ok nm_R hown hK hP hD hS 0 rfl rfl 0 (by decide) (hw _ wd_616) (fun _ h9 => h9) rfl (by decide +kernel) rfl rfl (Nat.le_of_ble_eq_true rfl) d_R_classOf_21 (fun H locs hP hD hS => ?_)
    have hP : va_P (dC, dI) vwCl (RSw cI cZ b0 bR bI bC bY bZ bF bL bN bX bT (1 : Int32) mwd men mR mI mC mY mZ mF mmd mhi mL mN mfr mX mT mct mtk) H := hP
    have hD : va_D A (RSw cI cZ b0 bR bI bC bY bZ bF bL bN bX bT (1 : Int32) mwd men mR mI mC mY mZ mF mmd mhi mL mN mfr mX mT mct mtk) := hD
    exact lp_24 a1 a2 (1 : Int32) mR H locs ls hP hD hS (lv_sub hl [0, 1, 2] rfl) h
  · have h := h.2 c_5
    refine lv_aload_n hx hb d_R_classOf_8 rfl (lv_at hl 0 rfl) ?_
    refine lv_iload_n hx hb d_R_classOf_9 rfl (lv_at hl 2 rfl) ?_
    refine rq_calli (W.runV (As := [.int a2]) (rest := [.ref b0]) ⟨hx, hb, hml, hown, hw⟩ (mR_has l dC dI cI cZ b0 bR bI bC bY bZ bF bL bN bX bT mcd mwd men mR mI mC mY mZ mF mmd mhi mL mN mfr mX mT mct mtk a2 _ h) (cwV 1 hw g_R_59 rfl rfl rfl (by decide +kernel) ⟨Nat.le_of_ble_eq_true rfl, Nat.le_of_ble_eq_true rfl⟩) (ro_PV (ci := 2) (q0 := 0) hK hP rfl rfl) rfl rfl hl.1 rfl (lv_room (Nat.le_of_ble_eq_true rfl)) d_R_classOf_10 ⟨Nat.le_of_ble_eq_true rfl, Nat.le_of_ble_eq_true rfl⟩) (fun r10 h => ?_)
    refine lv_if_eq (tgt := 20) hx hb d_R_classOf_13 (by decide) (fun c_13 => ?_) (fun c_13 => ?_)
    · have h := h.1 c_13
      refine lv_iconst (v := (1 : Int32)) hx hb d_R_classOf_20 (by decide) ?_
      refine va_put (D := (dC, dI)) (ci := 2) (v := .int (1 : Int32)) (ty := .int) (C := R_R) (T := T_R) (N := 18) hx hb hw in_R ty_R ty_R_ok nm_R hown hK hP hD hS 0 rfl rfl 0 (by decide) (hw _ wd_616) (fun _ h9 => h9) rfl (by decide +kernel) rfl rfl (Nat.le_of_ble_eq_true rfl) d_R_classOf_21 (fun H locs hP hD hS => ?_)
      have hP : va_P (dC, dI) vwCl (RSw cI cZ b0 bR bI bC bY bZ bF bL bN bX bT (1 : Int32) mwd men mR mI mC mY mZ mF mmd mhi mL mN mfr mX mT mct mtk) H := hP
      have hD : va_D A (RSw cI cZ b0 bR bI bC bY bZ bF bL bN bX bT (1 : Int32) mwd men mR mI mC mY mZ mF mmd mhi mL mN mfr mX mT mct mtk) := hD
      exact lp_24 a1 a2 (1 : Int32) mR H locs ls hP hD hS (lv_sub hl [0, 1, 2] rfl) h
    · have h := h.2 c_13
      refine lv_iconst (v := (0 : Int32)) hx hb d_R_classOf_16 (by decide) ?_
      refine lv_goto (tgt := 21) hx hb d_R_classOf_17 (by decide) ?_
      refine va_put (D := (dC, dI)) (ci := 2) (v := .int (0 : Int32)) (ty := .int) (C := R_R) (T := T_R) (N := 18) hx hb hw in_R ty_R ty_R_ok nm_R hown hK hP hD hS 0 rfl rfl 0 (by decide) (hw _ wd_616) (fun _ h9 => h9) rfl (by decide +kernel) rfl rfl (Nat.le_of_ble_eq_true rfl) d_R_classOf_21 (fun H locs hP hD hS => ?_)
      have hP : va_P (dC, dI) vwCl (RSw cI cZ b0 bR bI bC bY bZ bF bL bN bX bT (0 : Int32) mwd men mR mI mC mY mZ mF mmd mhi mL mN mfr mX mT mct mtk) H := hP
      have hD : va_D A (RSw cI cZ b0 bR bI bC bY bZ bF bL bN bX bT (0 : Int32) mwd men mR mI mC mY mZ mF mmd mhi mL mN mfr mX mT mct mtk) := hD
      exact lp_24 a1 a2 (0 : Int32) mR H locs ls hP hD hS (lv_sub hl [0, 1, 2] rfl) h
def wqR_setClass_24 (mR : Nat → Int32) (y1_24 : Int32) (y2_24 : Int32) (mcd_24 : Int32) (mC_24 : Nat → Int32) (post : Int32 → (Nat → Int32) → Prop) : Prop :=
  (mcd_24 = 0 → (vp_in y1_24 32 ∧ (wqR_placeOf (mR y1_24.toNatClampNeg) (fun r41 => vp_in y2_24 32 ∧ (vp_in r41 8192 ∧ (post mcd_24 (upd mC_24 r41.toNatClampNeg (mR y2_24.toNatClampNeg)))))))) ∧ (¬ (mcd_24 = 0) → (post mcd_24 mC_24))
def wqR_setClass (mcd : Int32) (mR : Nat → Int32) (mC : Nat → Int32) (a1 : Int32) (a2 : Int32) (post : Int32 → (Nat → Int32) → Prop) : Prop :=
  wqR_has mR a1 (fun r3 => (r3 = 0 → (wqR_setClass_24 mR a1 a2 (1 : Int32) mC post)) ∧ (¬ (r3 = 0) → (wqR_isRegister a2 (fun r10 => (r10 = 0 → (wqR_setClass_24 mR a1 a2 (1 : Int32) mC post)) ∧ (¬ (r10 = 0) → (wqR_setClass_24 mR a1 a2 (0 : Int32) mC post))))))
set_option maxHeartbeats 4000000 in
set_option maxRecDepth 100000 in
theorem mR_setClass (l : Launch) (dC : Nat → ClassId) (dI : Nat → Nat → Nat) (cI : ClassId) (cZ : ClassId) (b0 : Nat) (bR : Nat) (bI : Nat) (bC : Nat) (bY : Nat) (bZ : Nat) (bF : Nat) (bL : Nat) (bN : Nat) (bX : Nat) (bT : Nat) (sz : Nat) (mcd : Int32) (mwd : Int32) (men : Int32) (mR : Nat → Int32) (mI : Nat → Int32) (mC : Nat → Int32) (mY : Nat → Int32) (mZ : Nat → Int32) (mF : Nat → Int32) (mmd : Int32) (mhi : Int32) (mL : Nat → Int32) (mN : Nat → Int32) (mfr : Int32) (mX : Nat → Int32) (mT : Nat → Int32) (mct : Int32) (mtk : Int32) (a1 : Int32) (a2 : Int32) (post : Int32 → (Nat → Int32) → Prop) (h : wqR_setClass mcd mR mC a1 a2 post) : Met l y_R_setClass ws_R_setClass ({ frames := 2, cells := 0, slots := 0, locals := 41 }) (rw_P (dC, dI) vwCl (RSw cI cZ b0 bR bI bC bY bZ bF bL bN bX bT mcd mwd men mR mI mC mY mZ mF mmd mhi mL mN mfr mX mT mct mtk) [(cI, .int), (cZ, .boolean)] sz [.ref b0, .int a1, .int a2]) (va_Qv (fun u : Int32 × (Nat → Int32) => post u.1 u.2) (rw_B (dC, dI) vwCl [(cI, .int), (cZ, .boolean)] (va_A (RSw cI cZ b0 bR bI bC bY bZ bF bL bN bX bT mcd mwd men mR mI mC mY mZ mF mmd mhi mL mN mfr mX mT mct mtk) sz) (fun u : Int32 × (Nat → Int32) => RSw cI cZ b0 bR bI bC bY bZ bF bL bN bX bT u.1 mwd men mR mI u.2 mY mZ mF mmd mhi mL mN mfr mX mT mct mtk)) (va_A (RSw cI cZ b0 bR bI bC bY bZ bF bL bN bX bT mcd mwd men mR mI mC mY mZ mF mmd mhi mL mN mfr mX mT mct mtk) sz)) 0 0 (va_A (RSw cI cZ b0 bR bI bC bY bZ bF bL bN bX bT mcd mwd men mR mI mC mY mZ mF mmd mhi mL mN mfr mX mT mct mtk) sz) := by
  refine Met.ofW (cc := c_R_setClass) (maxL := 3) (ret := none) (by decide) rfl ?_
  intro p e s m args below meth c s₁ B hml hv
  obtain ⟨rfl, hsz, hP, hK, hD0⟩ := hv
  have hx := B.exec
  have hb := B.bytes
  have hr9 := B.returns
  have hts := atoms_spec (ws := ws_R_setClass) B.pre
  have hw : ∀ w ∈ WB_, w.before _ s = true := fun w h => hts w (List.mem_cons_of_mem _ h)
  have hown : s.vm.findClass R_R = some m.cls := findClass_of_methodNamed B.named
  have hlocks := B.notSynchronized
  subst hsz
  have hD := hD0.self (sz := s.heap.size)
  generalize hAe : va_A (RSw cI cZ b0 bR bI bC bY bZ bF bL bN bX bT mcd mwd men mR mI mC mY mZ mF mmd mhi mL mN mfr mX mT mct mtk) s.heap.size = A at hD ⊢
  have hA : ∀ q : Nat, s.heap.size ≤ q → A q := fun q h => by rw [← hAe]; exact Or.inr h
  have hS : va_S A s.heap s.heap [] := va_S.rf
  have hl := lv_entry ([.ref b0, .int a1, .int a2]) (n := 3) (Nat.le_of_ble_eq_true rfl)
  rw [lg_entry_eq]
  generalize (lg_sl ([.ref b0, .int a1, .int a2]) ++ List.replicate (3 - (lg_sl ([.ref b0, .int a1, .int a2])).length) Slot.unset).toArray = ls at hl ⊢
  have hl : lv_has ls 3 [(0, .ref b0), (1, .int a1), (2, .int a2)] := hl
  have lp_24 : ∀ (y1_24 : Int32) (y2_24 : Int32) (mcd_24 : Int32) (mC_24 : Nat → Int32) (H : Heap) (locs : List Loc) (ls : Array Slot), va_P (dC, dI) vwCl (RSw cI cZ b0 bR bI bC bY bZ bF bL bN bX bT mcd_24 mwd men mR mI mC_24 mY mZ mF mmd mhi mL mN mfr mX mT mct mtk) H → va_D A (RSw cI cZ b0 bR bI bC bY bZ bF bL bN bX bT mcd_24 mwd men mR mI mC_24 mY mZ mF mmd mhi mL mN mfr mX mT mct mtk) → va_S A s.heap H locs → lv_has ls 3 [(0, .ref b0), (1, .int y1_24), (2, .int y2_24)] → wqR_setClass_24 mR y1_24 y2_24 mcd_24 mC_24 post → W p l e (headSpec ws_R_setClass ({ frames := 2, cells := 0, slots := 0, locals := 41 })).room s m ([.ref b0, .int a1, .int a2] : List Value).toArray below meth c H locs (0) (0) (MQ below (va_Qv (fun u : Int32 × (Nat → Int32) => post u.1 u.2) (rw_B (dC, dI) vwCl [(cI, .int), (cZ, .boolean)] A (fun u : Int32 × (Nat → Int32) => RSw cI cZ b0 bR bI bC bY bZ bF bL bN bX bT u.1 mwd men mR mI u.2 mY mZ mF mmd mhi mL mN mfr mX mT mct mtk)) A) ([.ref b0, .int a1, .int a2] : List Value).toArray s 0 0 A) (F0 m 24 ls []) := by
    intro y1_24 y2_24 mcd_24 mC_24 H locs ls hP hD hS hl h
    unfold wqR_setClass_24 at h
    refine lv_aload_n hx hb d_R_setClass_24 rfl (lv_at hl 0 rfl) ?_
    refine va_get (D := (dC, dI)) (ci := 2) (v := .int mcd_24) (C := R_R) (T := T_R) (N := 18) hx hb hw in_R hown hK hP 0 rfl rfl 0 (by decide) (hw _ wd_616) (fun _ h9 => h9) rfl d_R_setClass_25 ?_
    refine lv_if_ne (tgt := 51) hx hb d_R_setClass_28 (by decide) (fun c_28 => ?_) (fun c_28 => ?_)
    · have h := h.2 c_28
      exact W.vret hx hb hr9 (fun t ht hW => ⟨⟨(mcd_24, mC_24), rfl, h, by rw [ht]; exact hP, va_K.moved hW.alike hK, hD⟩, hS.F ht⟩) hS.2.2 d_R_setClass_51
    · have h := h.1 c_28
      refine lv_aload_n hx hb d_R_setClass_31 rfl (lv_at hl 0 rfl) ?_
      refine va_get (D := (dC, dI)) (ci := 2) (v := .ref bC) (C := R_R) (T := T_R) (N := 18) hx hb hw in_R hown hK hP 0 rfl rfl 5 (by decide) (hw _ wd_621) (fun _ h9 => h9) rfl d_R_setClass_32 ?_
      refine lv_aload_n hx hb d_R_setClass_35 rfl (lv_at hl 0 rfl) ?_
      refine va_get (D := (dC, dI)) (ci := 2) (v := .ref bR) (C := R_R) (T := T_R) (N := 18) hx hb hw in_R hown hK hP 0 rfl rfl 3 (by decide) (hw _ wd_619) (fun _ h9 => h9) rfl d_R_setClass_36 ?_
      refine lv_iload_n hx hb d_R_setClass_39 rfl (lv_at hl 1 rfl) ?_
      refine va_iald hx hb hK hP 1 0 rfl rfl h.1 d_R_setClass_40 ?_
      have h := h.2
      refine rq_calli (W.runS (As := [.int (mR y1_24.toNatClampNeg)]) (rest := [.ref bC]) ⟨hx, hb, hml, hown, hw⟩ (mR_placeOf l (mR y1_24.toNatClampNeg) _ h) (va_cwS 1 hw g_R_62 rfl rfl rfl (by decide +kernel) ⟨Nat.le_of_ble_eq_true rfl, Nat.le_of_ble_eq_true rfl⟩) preEq rfl rfl hl.1 rfl (lv_room (Nat.le_of_ble_eq_true rfl)) d_R_setClass_41 ⟨Nat.le_of_ble_eq_true rfl, Nat.le_of_ble_eq_true rfl⟩) (fun r41 h => ?_)
      refine lv_aload_n hx hb d_R_setClass_44 rfl (lv_at hl 0 rfl) ?_
      refine va_get (D := (dC, dI)) (ci := 2) (v := .ref bR) (C := R_R) (T := T_R) (N := 18) hx hb hw in_R hown hK hP 0 rfl rfl 3 (by decide) (hw _ wd_619) (fun _ h9 => h9) rfl d_R_setClass_45 ?_
      refine lv_iload_n hx hb d_R_setClass_48 rfl (lv_at hl 2 rfl) ?_
      refine va_iald hx hb hK hP 1 0 rfl rfl h.1 d_R_setClass_49 ?_
      have h := h.2
      refine va_iast hx hb hK hP hD hS 3 0 rfl rfl h.1 d_R_setClass_50 (fun H locs hP hD hS => ?_)
      have hP : va_P (dC, dI) vwCl (RSw cI cZ b0 bR bI bC bY bZ bF bL bN bX bT mcd_24 mwd men mR mI (upd mC_24 r41.toNatClampNeg (mR y2_24.toNatClampNeg)) mY mZ mF mmd mhi mL mN mfr mX mT mct mtk) H := hP
      have hD : va_D A (RSw cI cZ b0 bR bI bC bY bZ bF bL bN bX bT mcd_24 mwd men mR mI (upd mC_24 r41.toNatClampNeg (mR y2_24.toNatClampNeg)) mY mZ mF mmd mhi mL mN mfr mX mT mct mtk) := hD
      have h := h.2
      exact W.vret hx hb hr9 (fun t ht hW => ⟨⟨(mcd_24, upd mC_24 r41.toNatClampNeg (mR y2_24.toNatClampNeg)), rfl, h, by rw [ht]; exact hP, va_K.moved hW.alike hK, hD⟩, hS.F ht⟩) hS.2.2 d_R_setClass_51
  unfold wqR_setClass at h
  refine lv_aload_n hx hb d_R_setClass_0 rfl (lv_at hl 0 rfl) ?_
  refine lv_aload_n hx hb d_R_setClass_1 rfl (lv_at hl 0 rfl) ?_
  refine lv_iload_n hx hb d_R_setClass_2 rfl (lv_at hl 1 rfl) ?_
  refine rq_calli (W.runV (As := [.int a1]) (rest := [.ref b0]) ⟨hx, hb, hml, hown, hw⟩ (mR_has l dC dI cI cZ b0 bR bI bC bY bZ bF bL bN bX bT mcd mwd men mR mI mC mY mZ mF mmd mhi mL mN mfr mX mT mct mtk a1 _ h) (cwV 1 hw g_R_59 rfl rfl rfl (by decide +kernel) ⟨Nat.le_of_ble_eq_true rfl, Nat.le_of_ble_eq_true rfl⟩) (ro_PV (ci := 2) (q0 := 0) hK hP rfl rfl) rfl rfl hl.1 rfl (lv_room (Nat.le_of_ble_eq_true rfl)) d_R_setClass_3 ⟨Nat.le_of_ble_eq_true rfl, Nat.le_of_ble_eq_true rfl⟩) (fun r3 h => ?_)
  refine lv_if_eq (tgt := 20) hx hb d_R_setClass_6 (by decide) (fun c_6 => ?_) (fun c_6 => ?_)
  · have h := h.1 c_6
    refine lv_iconst (v := (1 : Int32)) hx hb d_R_setClass_20 (by decide) ?_
    refine va_put (D := (dC, dI)) (ci := 2) (v := .int (1 : Int32)) (ty := .int) (C := R_R) (T := T_R) (N := 18) hx hb hw in_R ty_R ty_R_ok nm_R hown hK hP hD hS 0 rfl rfl 0 (by decide) (hw _ wd_616) (fun _ h9 => h9) rfl (by decide +kernel) rfl rfl (Nat.le_of_ble_eq_true rfl) d_R_setClass_21 (fun H locs hP hD hS => ?_)
    have hP : va_P (dC, dI) vwCl (RSw cI cZ b0 bR bI bC bY bZ bF bL bN bX bT (1 : Int32) mwd men mR mI mC mY mZ mF mmd mhi mL mN mfr mX mT mct mtk) H := hP
    have hD : va_D A (RSw cI cZ b0 bR bI bC bY bZ bF bL bN bX bT (1 : Int32) mwd men mR mI mC mY mZ mF mmd mhi mL mN mfr mX mT mct mtk) := hD
    exact lp_24 a1 a2 (1 : Int32) mC H locs ls hP hD hS (lv_sub hl [0, 1, 2] rfl) h
  · have h := h.2 c_6
    refine lv_iload_n hx hb d_R_setClass_9 rfl (lv_at hl 2 rfl) ?_
    refine rq_calli (W.runS (As := [.int a2]) (rest := [.ref b0]) ⟨hx, hb, hml, hown, hw⟩ (mR_isRegister l a2 _ h) (va_cwS 1 hw g_R_52 rfl rfl rfl (by decide +kernel) ⟨Nat.le_of_ble_eq_true rfl, Nat.le_of_ble_eq_true rfl⟩) preEq rfl rfl hl.1 rfl (lv_room (Nat.le_of_ble_eq_true rfl)) d_R_setClass_10 ⟨Nat.le_of_ble_eq_true rfl, Nat.le_of_ble_eq_true rfl⟩) (fun r10 h => ?_)
    refine lv_if_eq (tgt := 20) hx hb d_R_setClass_13 (by decide) (fun c_13 => ?_) (fun c_13 => ?_)
    · have h := h.1 c_13
      refine lv_iconst (v := (1 : Int32)) hx hb d_R_setClass_20 (by decide) ?_
      refine va_put (D := (dC, dI)) (ci := 2) (v := .int (1 : Int32)) (ty := .int) (C := R_R) (T := T_R) (N := 18) hx hb hw in_R ty_R ty_R_ok nm_R hown hK hP hD hS 0 rfl rfl 0 (by decide) (hw _ wd_616) (fun _ h9 => h9) rfl (by decide +kernel) rfl rfl (Nat.le_of_ble_eq_true rfl) d_R_setClass_21 (fun H locs hP hD hS => ?_)
      have hP : va_P (dC, dI) vwCl (RSw cI cZ b0 bR bI bC bY bZ bF bL bN bX bT (1 : Int32) mwd men mR mI mC mY mZ mF mmd mhi mL mN mfr mX mT mct mtk) H := hP
      have hD : va_D A (RSw cI cZ b0 bR bI bC bY bZ bF bL bN bX bT (1 : Int32) mwd men mR mI mC mY mZ mF mmd mhi mL mN mfr mX mT mct mtk) := hD
      exact lp_24 a1 a2 (1 : Int32) mC H locs ls hP hD hS (lv_sub hl [0, 1, 2] rfl) h
    · have h := h.2 c_13
      refine lv_iconst (v := (0 : Int32)) hx hb d_R_setClass_16 (by decide) ?_
      refine lv_goto (tgt := 21) hx hb d_R_setClass_17 (by decide) ?_
      refine va_put (D := (dC, dI)) (ci := 2) (v := .int (0 : Int32)) (ty := .int) (C := R_R) (T := T_R) (N := 18) hx hb hw in_R ty_R ty_R_ok nm_R hown hK hP hD hS 0 rfl rfl 0 (by decide) (hw _ wd_616) (fun _ h9 => h9) rfl (by decide +kernel) rfl rfl (Nat.le_of_ble_eq_true rfl) d_R_setClass_21 (fun H locs hP hD hS => ?_)
      have hP : va_P (dC, dI) vwCl (RSw cI cZ b0 bR bI bC bY bZ bF bL bN bX bT (0 : Int32) mwd men mR mI mC mY mZ mF mmd mhi mL mN mfr mX mT mct mtk) H := hP
      have hD : va_D A (RSw cI cZ b0 bR bI bC bY bZ bF bL bN bX bT (0 : Int32) mwd men mR mI mC mY mZ mF mmd mhi mL mN mfr mX mT mct mtk) := hD
      exact lp_24 a1 a2 (0 : Int32) mC H locs ls hP hD hS (lv_sub hl [0, 1, 2] rfl) h
def wqR_byteAt_34 (mR : Nat → Int32) (mY : Nat → Int32) (mZ : Nat → Int32) (mF : Nat → Int32) (mL : Nat → Int32) (mN : Nat → Int32) (y1_34 : Int32) (y2_34 : Int32) (mcd_34 : Int32) (post : Int32 → Int32 → Prop) : Prop :=
  (mcd_34 ≤ 0 → (vp_in y1_34 32 ∧ (wqR_placeOf (mR y1_34.toNatClampNeg) (fun r52 => wqR_byteOf mF mL mN r52 y2_34 (fun r56 => post r56 mcd_34))))) ∧ (¬ (mcd_34 ≤ 0) → (post (0 : Int32) mcd_34))
def wqR_byteAt (mcd : Int32) (mR : Nat → Int32) (mY : Nat → Int32) (mZ : Nat → Int32) (mF : Nat → Int32) (mL : Nat → Int32) (mN : Nat → Int32) (a1 : Int32) (a2 : Int32) (post : Int32 → Int32 → Prop) : Prop :=
  wqR_hasBytes mR mY a1 (fun r3 => (r3 = 0 → (wqR_byteAt_34 mR mY mZ mF mL mN a1 a2 (1 : Int32) post)) ∧ (¬ (r3 = 0) → ((a2 < 0 → (wqR_byteAt_34 mR mY mZ mF mL mN a1 a2 (2 : Int32) post)) ∧ (¬ (a2 < 0) → (wqR_sizeOf mR mZ a1 (fun r20 => (a2 < r20 → (wqR_byteAt_34 mR mY mZ mF mL mN a1 a2 (0 : Int32) post)) ∧ (¬ (a2 < r20) → (wqR_byteAt_34 mR mY mZ mF mL mN a1 a2 (2 : Int32) post))))))))
set_option maxHeartbeats 4000000 in
set_option maxRecDepth 100000 in
theorem mR_byteAt (l : Launch) (dC : Nat → ClassId) (dI : Nat → Nat → Nat) (cI : ClassId) (cZ : ClassId) (b0 : Nat) (bR : Nat) (bI : Nat) (bC : Nat) (bY : Nat) (bZ : Nat) (bF : Nat) (bL : Nat) (bN : Nat) (bX : Nat) (bT : Nat) (sz : Nat) (mcd : Int32) (mwd : Int32) (men : Int32) (mR : Nat → Int32) (mI : Nat → Int32) (mC : Nat → Int32) (mY : Nat → Int32) (mZ : Nat → Int32) (mF : Nat → Int32) (mmd : Int32) (mhi : Int32) (mL : Nat → Int32) (mN : Nat → Int32) (mfr : Int32) (mX : Nat → Int32) (mT : Nat → Int32) (mct : Int32) (mtk : Int32) (a1 : Int32) (a2 : Int32) (post : Int32 → Int32 → Prop) (h : wqR_byteAt mcd mR mY mZ mF mL mN a1 a2 post) : Met l y_R_byteAt ws_R_byteAt ({ frames := 3, cells := 0, slots := 0, locals := 62 }) (rw_P (dC, dI) vwCl (RSw cI cZ b0 bR bI bC bY bZ bF bL bN bX bT mcd mwd men mR mI mC mY mZ mF mmd mhi mL mN mfr mX mT mct mtk) [(cI, .int), (cZ, .boolean)] sz [.ref b0, .int a1, .int a2]) (va_Qi (fun (r : Int32) (u : Int32) => post r u) (rw_B (dC, dI) vwCl [(cI, .int), (cZ, .boolean)] (va_A (RSw cI cZ b0 bR bI bC bY bZ bF bL bN bX bT mcd mwd men mR mI mC mY mZ mF mmd mhi mL mN mfr mX mT mct mtk) sz) (fun u : Int32 => RSw cI cZ b0 bR bI bC bY bZ bF bL bN bX bT u mwd men mR mI mC mY mZ mF mmd mhi mL mN mfr mX mT mct mtk)) (va_A (RSw cI cZ b0 bR bI bC bY bZ bF bL bN bX bT mcd mwd men mR mI mC mY mZ mF mmd mhi mL mN mfr mX mT mct mtk) sz)) 0 0 (va_A (RSw cI cZ b0 bR bI bC bY bZ bF bL bN bX bT mcd mwd men mR mI mC mY mZ mF mmd mhi mL mN mfr mX mT mct mtk) sz) := by
  refine Met.ofW (cc := c_R_byteAt) (maxL := 3) (ret := (some .int)) (by decide) rfl ?_
  intro p e s m args below meth c s₁ B hml hv
  obtain ⟨rfl, hsz, hP, hK, hD0⟩ := hv
  have hx := B.exec
  have hb := B.bytes
  have hr9 := B.returns
  have hts := atoms_spec (ws := ws_R_byteAt) B.pre
  have hw : ∀ w ∈ WB_, w.before _ s = true := fun w h => hts w (List.mem_cons_of_mem _ h)
  have hown : s.vm.findClass R_R = some m.cls := findClass_of_methodNamed B.named
  have hlocks := B.notSynchronized
  subst hsz
  have hD := hD0.self (sz := s.heap.size)
  generalize hAe : va_A (RSw cI cZ b0 bR bI bC bY bZ bF bL bN bX bT mcd mwd men mR mI mC mY mZ mF mmd mhi mL mN mfr mX mT mct mtk) s.heap.size = A at hD ⊢
  have hA : ∀ q : Nat, s.heap.size ≤ q → A q := fun q h => by rw [← hAe]; exact Or.inr h
  have hS : va_S A s.heap s.heap [] := va_S.rf
  have hl := lv_entry ([.ref b0, .int a1, .int a2]) (n := 3) (Nat.le_of_ble_eq_true rfl)
  rw [lg_entry_eq]
  generalize (lg_sl ([.ref b0, .int a1, .int a2]) ++ List.replicate (3 - (lg_sl ([.ref b0, .int a1, .int a2])).length) Slot.unset).toArray = ls at hl ⊢
  have hl : lv_has ls 3 [(0, .ref b0), (1, .int a1), (2, .int a2)] := hl
  have lp_34 : ∀ (y1_34 : Int32) (y2_34 : Int32) (mcd_34 : Int32) (H : Heap) (locs : List Loc) (ls : Array Slot), va_P (dC, dI) vwCl (RSw cI cZ b0 bR bI bC bY bZ bF bL bN bX bT mcd_34 mwd men mR mI mC mY mZ mF mmd mhi mL mN mfr mX mT mct mtk) H → va_D A (RSw cI cZ b0 bR bI bC bY bZ bF bL bN bX bT mcd_34 mwd men mR mI mC mY mZ mF mmd mhi mL mN mfr mX mT mct mtk) → va_S A s.heap H locs → lv_has ls 3 [(0, .ref b0), (1, .int y1_34), (2, .int y2_34)] → wqR_byteAt_34 mR mY mZ mF mL mN y1_34 y2_34 mcd_34 post → W p l e (headSpec ws_R_byteAt ({ frames := 3, cells := 0, slots := 0, locals := 62 })).room s m ([.ref b0, .int a1, .int a2] : List Value).toArray below meth c H locs (0) (0) (MQ below (va_Qi (fun (r : Int32) (u : Int32) => post r u) (rw_B (dC, dI) vwCl [(cI, .int), (cZ, .boolean)] A (fun u : Int32 => RSw cI cZ b0 bR bI bC bY bZ bF bL bN bX bT u mwd men mR mI mC mY mZ mF mmd mhi mL mN mfr mX mT mct mtk)) A) ([.ref b0, .int a1, .int a2] : List Value).toArray s 0 0 A) (F0 m 34 ls []) := by
    intro y1_34 y2_34 mcd_34 H locs ls hP hD hS hl h
    unfold wqR_byteAt_34 at h
    refine lv_aload_n hx hb d_R_byteAt_34 rfl (lv_at hl 0 rfl) ?_
    refine va_get (D := (dC, dI)) (ci := 2) (v := .int mcd_34) (C := R_R) (T := T_R) (N := 18) hx hb hw in_R hown hK hP 0 rfl rfl 0 (by decide) (hw _ wd_616) (fun _ h9 => h9) rfl d_R_byteAt_35 ?_
    refine lv_if_le (tgt := 45) hx hb d_R_byteAt_38 (by decide) (fun c_38 => ?_) (fun c_38 => ?_)
    · have h := h.1 c_38
      refine lv_aload_n hx hb d_R_byteAt_45 rfl (lv_at hl 0 rfl) ?_
      refine lv_aload_n hx hb d_R_byteAt_46 rfl (lv_at hl 0 rfl) ?_
      refine va_get (D := (dC, dI)) (ci := 2) (v := .ref bR) (C := R_R) (T := T_R) (N := 18) hx hb hw in_R hown hK hP 0 rfl rfl 3 (by decide) (hw _ wd_619) (fun _ h9 => h9) rfl d_R_byteAt_47 ?_
      refine lv_iload_n hx hb d_R_byteAt_50 rfl (lv_at hl 1 rfl) ?_
      refine va_iald hx hb hK hP 1 0 rfl rfl h.1 d_R_byteAt_51 ?_
      have h := h.2
      refine rq_calli (W.runS (As := [.int (mR y1_34.toNatClampNeg)]) (rest := [.ref b0]) ⟨hx, hb, hml, hown, hw⟩ (mR_placeOf l (mR y1_34.toNatClampNeg) _ h) (va_cwS 1 hw g_R_62 rfl rfl rfl (by decide +kernel) ⟨Nat.le_of_ble_eq_true rfl, Nat.le_of_ble_eq_true rfl⟩) preEq rfl rfl hl.1 rfl (lv_room (Nat.le_of_ble_eq_true rfl)) d_R_byteAt_52 ⟨Nat.le_of_ble_eq_true rfl, Nat.le_of_ble_eq_true rfl⟩) (fun r52 h => ?_)
      refine lv_iload_n hx hb d_R_byteAt_55 rfl (lv_at hl 2 rfl) ?_
      refine rq_calli (W.runV (As := [.int r52, .int y2_34]) (rest := []) ⟨hx, hb, hml, hown, hw⟩ (mR_byteOf l dC dI cI cZ b0 bR bI bC bY bZ bF bL bN bX bT mcd_34 mwd men mR mI mC mY mZ mF mmd mhi mL mN mfr mX mT mct mtk r52 y2_34 _ h) (cwV 2 hw g_R_127 rfl rfl rfl (by decide +kernel) ⟨Nat.le_of_ble_eq_true rfl, Nat.le_of_ble_eq_true rfl⟩) (ro_PV (ci := 2) (q0 := 0) hK hP rfl rfl) rfl rfl hl.1 rfl (lv_room (Nat.le_of_ble_eq_true rfl)) d_R_byteAt_56 ⟨Nat.le_of_ble_eq_true rfl, Nat.le_of_ble_eq_true rfl⟩) (fun r56 h => ?_)
      exact W.iret (v := r56) hx hb hr9 (fun t ht hW => ⟨⟨_, (mcd_34), rfl, h, by rw [ht]; exact hP, va_K.moved hW.alike hK, hD⟩, hS.F ht⟩) hS.2.2 d_R_byteAt_59
    · have h := h.2 c_38
      refine lv_iconst (v := (0 : Int32)) hx hb d_R_byteAt_41 (by decide) ?_
      refine lv_goto (tgt := 59) hx hb d_R_byteAt_42 (by decide) ?_
      exact W.iret (v := (0 : Int32)) hx hb hr9 (fun t ht hW => ⟨⟨_, (mcd_34), rfl, h, by rw [ht]; exact hP, va_K.moved hW.alike hK, hD⟩, hS.F ht⟩) hS.2.2 d_R_byteAt_59
  unfold wqR_byteAt at h
  refine lv_aload_n hx hb d_R_byteAt_0 rfl (lv_at hl 0 rfl) ?_
  refine lv_aload_n hx hb d_R_byteAt_1 rfl (lv_at hl 0 rfl) ?_
  refine lv_iload_n hx hb d_R_byteAt_2 rfl (lv_at hl 1 rfl) ?_
  refine rq_calli (W.runV (As := [.int a1]) (rest := [.ref b0]) ⟨hx, hb, hml, hown, hw⟩ (mR_hasBytes l dC dI cI cZ b0 bR bI bC bY bZ bF bL bN bX bT mcd mwd men mR mI mC mY mZ mF mmd mhi mL mN mfr mX mT mct mtk a1 _ h) (cwV 1 hw g_R_117 rfl rfl rfl (by decide +kernel) ⟨Nat.le_of_ble_eq_true rfl, Nat.le_of_ble_eq_true rfl⟩) (ro_PV (ci := 2) (q0 := 0) hK hP rfl rfl) rfl rfl hl.1 rfl (lv_room (Nat.le_of_ble_eq_true rfl)) d_R_byteAt_3 ⟨Nat.le_of_ble_eq_true rfl, Nat.le_of_ble_eq_true rfl⟩) (fun r3 h => ?_)
  refine lv_if_ne (tgt := 13) hx hb d_R_byteAt_6 (by decide) (fun c_6 => ?_) (fun c_6 => ?_)
  · have h := h.2 c_6
    refine lv_iload_n hx hb d_R_byteAt_13 rfl (lv_at hl 2 rfl) ?_
    refine lv_if_lt (tgt := 26) hx hb d_R_byteAt_14 (by decide) (fun c_14 => ?_) (fun c_14 => ?_)
    · have h := h.1 c_14
      refine lv_iconst (v := (2 : Int32)) hx hb d_R_byteAt_26 (by decide) ?_
      refine lv_goto (tgt := 31) hx hb d_R_byteAt_27 (by decide) ?_
      refine va_put (D := (dC, dI)) (ci := 2) (v := .int (2 : Int32)) (ty := .int) (C := R_R) (T := T_R) (N := 18) hx hb hw in_R ty_R ty_R_ok nm_R hown hK hP hD hS 0 rfl rfl 0 (by decide) (hw _ wd_616) (fun _ h9 => h9) rfl (by decide +kernel) rfl rfl (Nat.le_of_ble_eq_true rfl) d_R_byteAt_31 (fun H locs hP hD hS => ?_)
      have hP : va_P (dC, dI) vwCl (RSw cI cZ b0 bR bI bC bY bZ bF bL bN bX bT (2 : Int32) mwd men mR mI mC mY mZ mF mmd mhi mL mN mfr mX mT mct mtk) H := hP
      have hD : va_D A (RSw cI cZ b0 bR bI bC bY bZ bF bL bN bX bT (2 : Int32) mwd men mR mI mC mY mZ mF mmd mhi mL mN mfr mX mT mct mtk) := hD
      exact lp_34 a1 a2 (2 : Int32) H locs ls hP hD hS (lv_sub hl [0, 1, 2] rfl) h
    · have h := h.2 c_14
      refine lv_iload_n hx hb d_R_byteAt_17 rfl (lv_at hl 2 rfl) ?_
      refine lv_aload_n hx hb d_R_byteAt_18 rfl (lv_at hl 0 rfl) ?_
      refine lv_iload_n hx hb d_R_byteAt_19 rfl (lv_at hl 1 rfl) ?_
      refine rq_calli (W.runV (As := [.int a1]) (rest := [.int a2, .ref b0]) ⟨hx, hb, hml, hown, hw⟩ (mR_sizeOf l dC dI cI cZ b0 bR bI bC bY bZ bF bL bN bX bT mcd mwd men mR mI mC mY mZ mF mmd mhi mL mN mfr mX mT mct mtk a1 _ h) (cwV 1 hw g_R_114 rfl rfl rfl (by decide +kernel) ⟨Nat.le_of_ble_eq_true rfl, Nat.le_of_ble_eq_true rfl⟩) (ro_PV (ci := 2) (q0 := 0) hK hP rfl rfl) rfl rfl hl.1 rfl (lv_room (Nat.le_of_ble_eq_true rfl)) d_R_byteAt_20 ⟨Nat.le_of_ble_eq_true rfl, Nat.le_of_ble_eq_true rfl⟩) (fun r20 h => ?_)
      refine lv_icmp_lt (tgt := 30) hx hb d_R_byteAt_23 (by decide) (fun c_23 => ?_) (fun c_23 => ?_)
      · have h := h.1 c_23
        refine lv_iconst (v := (0 : Int32)) hx hb d_R_byteAt_30 (by decide) ?_
        refine va_put (D := (dC, dI)) (ci := 2) (v := .int (0 : Int32)) (ty := .int) (C := R_R) (T := T_R) (N := 18) hx hb hw in_R ty_R ty_R_ok nm_R hown hK hP hD hS 0 rfl rfl 0 (by decide) (hw _ wd_616) (fun _ h9 => h9) rfl (by decide +kernel) rfl rfl (Nat.le_of_ble_eq_true rfl) d_R_byteAt_31 (fun H locs hP hD hS => ?_)
        have hP : va_P (dC, dI) vwCl (RSw cI cZ b0 bR bI bC bY bZ bF bL bN bX bT (0 : Int32) mwd men mR mI mC mY mZ mF mmd mhi mL mN mfr mX mT mct mtk) H := hP
        have hD : va_D A (RSw cI cZ b0 bR bI bC bY bZ bF bL bN bX bT (0 : Int32) mwd men mR mI mC mY mZ mF mmd mhi mL mN mfr mX mT mct mtk) := hD
        exact lp_34 a1 a2 (0 : Int32) H locs ls hP hD hS (lv_sub hl [0, 1, 2] rfl) h
      · have h := h.2 c_23
        refine lv_iconst (v := (2 : Int32)) hx hb d_R_byteAt_26 (by decide) ?_
        refine lv_goto (tgt := 31) hx hb d_R_byteAt_27 (by decide) ?_
        refine va_put (D := (dC, dI)) (ci := 2) (v := .int (2 : Int32)) (ty := .int) (C := R_R) (T := T_R) (N := 18) hx hb hw in_R ty_R ty_R_ok nm_R hown hK hP hD hS 0 rfl rfl 0 (by decide) (hw _ wd_616) (fun _ h9 => h9) rfl (by decide +kernel) rfl rfl (Nat.le_of_ble_eq_true rfl) d_R_byteAt_31 (fun H locs hP hD hS => ?_)
        have hP : va_P (dC, dI) vwCl (RSw cI cZ b0 bR bI bC bY bZ bF bL bN bX bT (2 : Int32) mwd men mR mI mC mY mZ mF mmd mhi mL mN mfr mX mT mct mtk) H := hP
        have hD : va_D A (RSw cI cZ b0 bR bI bC bY bZ bF bL bN bX bT (2 : Int32) mwd men mR mI mC mY mZ mF mmd mhi mL mN mfr mX mT mct mtk) := hD
        exact lp_34 a1 a2 (2 : Int32) H locs ls hP hD hS (lv_sub hl [0, 1, 2] rfl) h
  · have h := h.1 c_6
    refine lv_iconst (v := (1 : Int32)) hx hb d_R_byteAt_9 (by decide) ?_
    refine lv_goto (tgt := 31) hx hb d_R_byteAt_10 (by decide) ?_
    refine va_put (D := (dC, dI)) (ci := 2) (v := .int (1 : Int32)) (ty := .int) (C := R_R) (T := T_R) (N := 18) hx hb hw in_R ty_R ty_R_ok nm_R hown hK hP hD hS 0 rfl rfl 0 (by decide) (hw _ wd_616) (fun _ h9 => h9) rfl (by decide +kernel) rfl rfl (Nat.le_of_ble_eq_true rfl) d_R_byteAt_31 (fun H locs hP hD hS => ?_)
    have hP : va_P (dC, dI) vwCl (RSw cI cZ b0 bR bI bC bY bZ bF bL bN bX bT (1 : Int32) mwd men mR mI mC mY mZ mF mmd mhi mL mN mfr mX mT mct mtk) H := hP
    have hD : va_D A (RSw cI cZ b0 bR bI bC bY bZ bF bL bN bX bT (1 : Int32) mwd men mR mI mC mY mZ mF mmd mhi mL mN mfr mX mT mct mtk) := hD
    exact lp_34 a1 a2 (1 : Int32) H locs ls hP hD hS (lv_sub hl [0, 1, 2] rfl) h
def wqR_bytePut_37 (mR : Nat → Int32) (mY : Nat → Int32) (mZ : Nat → Int32) (mF : Nat → Int32) (mN : Nat → Int32) (y1_37 : Int32) (y2_37 : Int32) (y3_37 : Int64) (mcdf_37 : Int32) (post : Int32 → (Nat → Int32) → Prop) (kx : Int32 → (Nat → Int32) → Prop) : Nat → Int32 → (Nat → Int32) → Prop
  | 0, _, _ => False
  | n + 1, x5_37, mL_37 =>
    ((8 : Int32) ≤ x5_37 → (kx x5_37 mL_37)) ∧ (¬ ((8 : Int32) ≤ x5_37) → ((mcdf_37 = 0 → (wqR_sizeOf mR mZ y1_37 (fun r57 => (r57 ≤ (y2_37 + x5_37) → (kx x5_37 mL_37)) ∧ (¬ (r57 ≤ (y2_37 + x5_37)) → (vp_in y1_37 32 ∧ (wqR_placeOf (mR y1_37.toNatClampNeg) (fun r70 => wqR_setByte mF mL_37 mN r70 (y2_37 + x5_37) ((((y3_37.toUInt64 >>> (((56 : Int32) - ((8 : Int32) * x5_37)).toInt64.toUInt64 &&& Int64.toUInt64 63)).toInt64) &&& (255 : Int64)).toInt32) (fun mL_92 => wqR_bytePut_37 mR mY mZ mF mN y1_37 y2_37 y3_37 mcdf_37 post kx n (x5_37 + (1 : Int32)) mL_92)))))))) ∧ (¬ (mcdf_37 = 0) → (kx x5_37 mL_37))))
def wqR_bytePut_34 (mR : Nat → Int32) (mY : Nat → Int32) (mZ : Nat → Int32) (mF : Nat → Int32) (mN : Nat → Int32) (y1_34 : Int32) (y2_34 : Int32) (y3_34 : Int64) (mcd_34 : Int32) (mL_34 : Nat → Int32) (post : Int32 → (Nat → Int32) → Prop) : Prop :=
  ∃ k_37, wqR_bytePut_37 mR mY mZ mF mN y1_34 y2_34 y3_34 mcd_34 post (fun z5_37 mLe_37 => post mcd_34 mLe_37) k_37 (0 : Int32) mL_34
def wqR_bytePut (mcd : Int32) (mR : Nat → Int32) (mY : Nat → Int32) (mZ : Nat → Int32) (mF : Nat → Int32) (mL : Nat → Int32) (mN : Nat → Int32) (a1 : Int32) (a2 : Int32) (a3 : Int64) (post : Int32 → (Nat → Int32) → Prop) : Prop :=
  wqR_hasBytes mR mY a1 (fun r3 => (r3 = 0 → (wqR_bytePut_34 mR mY mZ mF mN a1 a2 a3 (1 : Int32) mL post)) ∧ (¬ (r3 = 0) → ((a2 < 0 → (wqR_bytePut_34 mR mY mZ mF mN a1 a2 a3 (2 : Int32) mL post)) ∧ (¬ (a2 < 0) → (wqR_sizeOf mR mZ a1 (fun r20 => (a2 < r20 → (wqR_bytePut_34 mR mY mZ mF mN a1 a2 a3 (0 : Int32) mL post)) ∧ (¬ (a2 < r20) → (wqR_bytePut_34 mR mY mZ mF mN a1 a2 a3 (2 : Int32) mL post))))))))
set_option maxHeartbeats 4000000 in
set_option maxRecDepth 100000 in
theorem mR_bytePut (l : Launch) (dC : Nat → ClassId) (dI : Nat → Nat → Nat) (cI : ClassId) (cZ : ClassId) (b0 : Nat) (bR : Nat) (bI : Nat) (bC : Nat) (bY : Nat) (bZ : Nat) (bF : Nat) (bL : Nat) (bN : Nat) (bX : Nat) (bT : Nat) (sz : Nat) (mcd : Int32) (mwd : Int32) (men : Int32) (mR : Nat → Int32) (mI : Nat → Int32) (mC : Nat → Int32) (mY : Nat → Int32) (mZ : Nat → Int32) (mF : Nat → Int32) (mmd : Int32) (mhi : Int32) (mL : Nat → Int32) (mN : Nat → Int32) (mfr : Int32) (mX : Nat → Int32) (mT : Nat → Int32) (mct : Int32) (mtk : Int32) (a1 : Int32) (a2 : Int32) (a3 : Int64) (post : Int32 → (Nat → Int32) → Prop) (h : wqR_bytePut mcd mR mY mZ mF mL mN a1 a2 a3 post) : Met l y_R_bytePut ws_R_bytePut ({ frames := 3, cells := 0, slots := 0, locals := 62 }) (rw_P (dC, dI) vwCl (RSw cI cZ b0 bR bI bC bY bZ bF bL bN bX bT mcd mwd men mR mI mC mY mZ mF mmd mhi mL mN mfr mX mT mct mtk) [(cI, .int), (cZ, .boolean)] sz [.ref b0, .int a1, .int a2, .long a3]) (va_Qv (fun u : Int32 × (Nat → Int32) => post u.1 u.2) (rw_B (dC, dI) vwCl [(cI, .int), (cZ, .boolean)] (va_A (RSw cI cZ b0 bR bI bC bY bZ bF bL bN bX bT mcd mwd men mR mI mC mY mZ mF mmd mhi mL mN mfr mX mT mct mtk) sz) (fun u : Int32 × (Nat → Int32) => RSw cI cZ b0 bR bI bC bY bZ bF bL bN bX bT u.1 mwd men mR mI mC mY mZ mF mmd mhi u.2 mN mfr mX mT mct mtk)) (va_A (RSw cI cZ b0 bR bI bC bY bZ bF bL bN bX bT mcd mwd men mR mI mC mY mZ mF mmd mhi mL mN mfr mX mT mct mtk) sz)) 0 0 (va_A (RSw cI cZ b0 bR bI bC bY bZ bF bL bN bX bT mcd mwd men mR mI mC mY mZ mF mmd mhi mL mN mfr mX mT mct mtk) sz) := by
  refine Met.ofW (cc := c_R_bytePut) (maxL := 6) (ret := none) (by decide) rfl ?_
  intro p e s m args below meth c s₁ B hml hv
  obtain ⟨rfl, hsz, hP, hK, hD0⟩ := hv
  have hx := B.exec
  have hb := B.bytes
  have hr9 := B.returns
  have hts := atoms_spec (ws := ws_R_bytePut) B.pre
  have hw : ∀ w ∈ WB_, w.before _ s = true := fun w h => hts w (List.mem_cons_of_mem _ h)
  have hown : s.vm.findClass R_R = some m.cls := findClass_of_methodNamed B.named
  have hlocks := B.notSynchronized
  subst hsz
  have hD := hD0.self (sz := s.heap.size)
  generalize hAe : va_A (RSw cI cZ b0 bR bI bC bY bZ bF bL bN bX bT mcd mwd men mR mI mC mY mZ mF mmd mhi mL mN mfr mX mT mct mtk) s.heap.size = A at hD ⊢
  have hA : ∀ q : Nat, s.heap.size ≤ q → A q := fun q h => by rw [← hAe]; exact Or.inr h
  have hS : va_S A s.heap s.heap [] := va_S.rf
  have hl := lv_entry ([.ref b0, .int a1, .int a2, .long a3]) (n := 6) (Nat.le_of_ble_eq_true rfl)
  rw [lg_entry_eq]
  generalize (lg_sl ([.ref b0, .int a1, .int a2, .long a3]) ++ List.replicate (6 - (lg_sl ([.ref b0, .int a1, .int a2, .long a3])).length) Slot.unset).toArray = ls at hl ⊢
  have hl : lv_has ls 6 [(0, .ref b0), (1, .int a1), (2, .int a2), (3, .long a3)] := hl
  have lp_37 : ∀ (y1_37 : Int32) (y2_37 : Int32) (y3_37 : Int64) (mcdf_37 : Int32) (kx : Int32 → (Nat → Int32) → Prop), (∀ (z5_37 : Int32) (mLe_37 : Nat → Int32) (H : Heap) (locs : List Loc) (ls : Array Slot), va_P (dC, dI) vwCl (RSw cI cZ b0 bR bI bC bY bZ bF bL bN bX bT mcdf_37 mwd men mR mI mC mY mZ mF mmd mhi mLe_37 mN mfr mX mT mct mtk) H → va_D A (RSw cI cZ b0 bR bI bC bY bZ bF bL bN bX bT mcdf_37 mwd men mR mI mC mY mZ mF mmd mhi mLe_37 mN mfr mX mT mct mtk) → va_S A s.heap H locs → lv_has ls 6 [(0, .ref b0), (1, .int y1_37), (2, .int y2_37), (3, .long y3_37), (5, .int z5_37)] → kx z5_37 mLe_37 → W p l e (headSpec ws_R_bytePut ({ frames := 3, cells := 0, slots := 0, locals := 62 })).room s m ([.ref b0, .int a1, .int a2, .long a3] : List Value).toArray below meth c H locs (0) (0) (MQ below (va_Qv (fun u : Int32 × (Nat → Int32) => post u.1 u.2) (rw_B (dC, dI) vwCl [(cI, .int), (cZ, .boolean)] A (fun u : Int32 × (Nat → Int32) => RSw cI cZ b0 bR bI bC bY bZ bF bL bN bX bT u.1 mwd men mR mI mC mY mZ mF mmd mhi u.2 mN mfr mX mT mct mtk)) A) ([.ref b0, .int a1, .int a2, .long a3] : List Value).toArray s 0 0 A) (F0 m 101 ls [])) → ∀ (n : Nat) (x5_37 : Int32) (mL_37 : Nat → Int32) (H : Heap) (locs : List Loc) (ls : Array Slot), va_P (dC, dI) vwCl (RSw cI cZ b0 bR bI bC bY bZ bF bL bN bX bT mcdf_37 mwd men mR mI mC mY mZ mF mmd mhi mL_37 mN mfr mX mT mct mtk) H → va_D A (RSw cI cZ b0 bR bI bC bY bZ bF bL bN bX bT mcdf_37 mwd men mR mI mC mY mZ mF mmd mhi mL_37 mN mfr mX mT mct mtk) → va_S A s.heap H locs → lv_has ls 6 [(0, .ref b0), (1, .int y1_37), (2, .int y2_37), (3, .long y3_37), (5, .int x5_37)] → wqR_bytePut_37 mR mY mZ mF mN y1_37 y2_37 y3_37 mcdf_37 post kx n x5_37 mL_37 → W p l e (headSpec ws_R_bytePut ({ frames := 3, cells := 0, slots := 0, locals := 62 })).room s m ([.ref b0, .int a1, .int a2, .long a3] : List Value).toArray below meth c H locs (0) (0) (MQ below (va_Qv (fun u : Int32 × (Nat → Int32) => post u.1 u.2) (rw_B (dC, dI) vwCl [(cI, .int), (cZ, .boolean)] A (fun u : Int32 × (Nat → Int32) => RSw cI cZ b0 bR bI bC bY bZ bF bL bN bX bT u.1 mwd men mR mI mC mY mZ mF mmd mhi u.2 mN mfr mX mT mct mtk)) A) ([.ref b0, .int a1, .int a2, .long a3] : List Value).toArray s 0 0 A) (F0 m 37 ls []) := by
    intro y1_37 y2_37 y3_37 mcdf_37 kx K n
    induction n with
    | zero => intro x5_37 mL_37 H locs ls hP hD hS hl h; exact h.elim
    | succ n ih =>
      intro x5_37 mL_37 H locs ls hP hD hS hl h
      refine lv_iload hx hb d_R_bytePut_37 (lv_at hl 4 rfl) ?_
      refine lv_bipush (v := (8 : Int32)) hx hb d_R_bytePut_39 (by decide) ?_
      refine lv_icmp_ge (tgt := 101) hx hb d_R_bytePut_41 (by decide) (fun c_41 => ?_) (fun c_41 => ?_)
      · have h := h.1 c_41
        exact K x5_37 mL_37 H locs ls hP hD hS (lv_sub hl [0, 1, 2, 3, 4] rfl) h
      · have h := h.2 c_41
        refine lv_aload_n hx hb d_R_bytePut_44 rfl (lv_at hl 0 rfl) ?_
        refine va_get (D := (dC, dI)) (ci := 2) (v := .int mcdf_37) (C := R_R) (T := T_R) (N := 18) hx hb hw in_R hown hK hP 0 rfl rfl 0 (by decide) (hw _ wd_616) (fun _ h9 => h9) rfl d_R_bytePut_45 ?_
        refine lv_if_ne (tgt := 101) hx hb d_R_bytePut_48 (by decide) (fun c_48 => ?_) (fun c_48 => ?_)
        · have h := h.2 c_48
          exact K x5_37 mL_37 H locs ls hP hD hS (lv_sub hl [0, 1, 2, 3, 4] rfl) h
        · have h := h.1 c_48
          refine lv_iload_n hx hb d_R_bytePut_51 rfl (lv_at hl 2 rfl) ?_
          refine lv_iload hx hb d_R_bytePut_52 (lv_at hl 4 rfl) ?_
          refine lv_iadd hx hb d_R_bytePut_54 ?_
          refine lv_aload_n hx hb d_R_bytePut_55 rfl (lv_at hl 0 rfl) ?_
          refine lv_iload_n hx hb d_R_bytePut_56 rfl (lv_at hl 1 rfl) ?_
          refine rq_calli (W.runV (As := [.int y1_37]) (rest := [.int (y2_37 + x5_37)]) ⟨hx, hb, hml, hown, hw⟩ (mR_sizeOf l dC dI cI cZ b0 bR bI bC bY bZ bF bL bN bX bT mcdf_37 mwd men mR mI mC mY mZ mF mmd mhi mL_37 mN mfr mX mT mct mtk y1_37 _ h) (cwV 1 hw g_R_114 rfl rfl rfl (by decide +kernel) ⟨Nat.le_of_ble_eq_true rfl, Nat.le_of_ble_eq_true rfl⟩) (ro_PV (ci := 2) (q0 := 0) hK hP rfl rfl) rfl rfl hl.1 rfl (lv_room (Nat.le_of_ble_eq_true rfl)) d_R_bytePut_57 ⟨Nat.le_of_ble_eq_true rfl, Nat.le_of_ble_eq_true rfl⟩) (fun r57 h => ?_)
          refine lv_icmp_ge (tgt := 101) hx hb d_R_bytePut_60 (by decide) (fun c_60 => ?_) (fun c_60 => ?_)
          · have h := h.1 c_60
            exact K x5_37 mL_37 H locs ls hP hD hS (lv_sub hl [0, 1, 2, 3, 4] rfl) h
          · have h := h.2 c_60
            refine lv_aload_n hx hb d_R_bytePut_63 rfl (lv_at hl 0 rfl) ?_
            refine lv_aload_n hx hb d_R_bytePut_64 rfl (lv_at hl 0 rfl) ?_
            refine va_get (D := (dC, dI)) (ci := 2) (v := .ref bR) (C := R_R) (T := T_R) (N := 18) hx hb hw in_R hown hK hP 0 rfl rfl 3 (by decide) (hw _ wd_619) (fun _ h9 => h9) rfl d_R_bytePut_65 ?_
            refine lv_iload_n hx hb d_R_bytePut_68 rfl (lv_at hl 1 rfl) ?_
            refine va_iald hx hb hK hP 1 0 rfl rfl h.1 d_R_bytePut_69 ?_
            have h := h.2
            refine rq_calli (W.runS (As := [.int (mR y1_37.toNatClampNeg)]) (rest := [.ref b0]) ⟨hx, hb, hml, hown, hw⟩ (mR_placeOf l (mR y1_37.toNatClampNeg) _ h) (va_cwS 1 hw g_R_62 rfl rfl rfl (by decide +kernel) ⟨Nat.le_of_ble_eq_true rfl, Nat.le_of_ble_eq_true rfl⟩) preEq rfl rfl hl.1 rfl (lv_room (Nat.le_of_ble_eq_true rfl)) d_R_bytePut_70 ⟨Nat.le_of_ble_eq_true rfl, Nat.le_of_ble_eq_true rfl⟩) (fun r70 h => ?_)
            refine lv_iload_n hx hb d_R_bytePut_73 rfl (lv_at hl 2 rfl) ?_
            refine lv_iload hx hb d_R_bytePut_74 (lv_at hl 4 rfl) ?_
            refine lv_iadd hx hb d_R_bytePut_76 ?_
            refine lv_lload_n hx hb d_R_bytePut_77 rfl (lv_at hl 3 rfl) ?_
            refine lv_bipush (v := (56 : Int32)) hx hb d_R_bytePut_78 (by decide) ?_
            refine lv_bipush (v := (8 : Int32)) hx hb d_R_bytePut_80 (by decide) ?_
            refine lv_iload hx hb d_R_bytePut_82 (lv_at hl 4 rfl) ?_
            refine lv_imul hx hb d_R_bytePut_84 ?_
            refine lv_isub hx hb d_R_bytePut_85 ?_
            refine lv_lushr (v := (y3_37.toUInt64 >>> (((56 : Int32) - ((8 : Int32) * x5_37)).toInt64.toUInt64 &&& Int64.toUInt64 63)).toInt64) hx hb d_R_bytePut_86 rfl ?_
            refine lv_ldc2 (v := (255 : Int64)) hx hb hown (hw _ wd_797) d_R_bytePut_87 ?_
            refine lv_land hx hb d_R_bytePut_90 ?_
            refine lv_l2i (v := (((y3_37.toUInt64 >>> (((56 : Int32) - ((8 : Int32) * x5_37)).toInt64.toUInt64 &&& Int64.toUInt64 63)).toInt64) &&& (255 : Int64)).toInt32) hx hb d_R_bytePut_91 rfl ?_
            have hFc := va_free (wc := RSw cI cZ b0 bR bI bC bY bZ bF bL bN bX bT mcdf_37 mwd men mR mI mC mY mZ mF mmd mhi mL_37 mN mfr mX mT mct mtk) hD hS hA [0, 1, 2, 3, 4, 5, 6, 7, 8, 9, 10] rfl
            refine va_callv (va_runV (As := [.int r70, .int (y2_37 + x5_37), .int ((((y3_37.toUInt64 >>> (((56 : Int32) - ((8 : Int32) * x5_37)).toInt64.toUInt64 &&& Int64.toUInt64 63)).toInt64) &&& (255 : Int64)).toInt32)]) (rest := []) ⟨hx, hb, hml, hown, hw⟩ (mR_setByte l dC dI cI cZ b0 bR bI bC bY bZ bF bL bN bX bT H.size mcdf_37 mwd men mR mI mC mY mZ mF mmd mhi mL_37 mN mfr mX mT mct mtk r70 (y2_37 + x5_37) ((((y3_37.toUInt64 >>> (((56 : Int32) - ((8 : Int32) * x5_37)).toInt64.toUInt64 &&& Int64.toUInt64 63)).toInt64) &&& (255 : Int64)).toInt32) _ h) (cwV 3 hw g_R_132 rfl rfl rfl (by decide +kernel) ⟨Nat.le_of_ble_eq_true rfl, Nat.le_of_ble_eq_true rfl⟩) (rw_PV (ci := 2) (q0 := 0) hK hP hD rfl rfl) rfl rfl hl.1 rfl (lv_room (Nat.le_of_ble_eq_true rfl)) d_R_bytePut_92 ⟨Nat.le_of_ble_eq_true rfl, Nat.le_of_ble_eq_true rfl⟩) hS (fun q _ h => hFc q h) hFc (fun u t H locs ht hvm h hB hz1 hk1 hS => ?_)
            obtain ⟨mL_92, rfl⟩ : ∃ z, z = u := ⟨_, rfl⟩
            obtain ⟨hP, hK1, hD1⟩ := hB
            rw [ht] at hP
            have hD := hD1.weaken (fun _ _ _ q => hFc _ q)
            clear hFc hD1 hK1
            try dsimp only at h
            have hP : va_P (dC, dI) vwCl (RSw cI cZ b0 bR bI bC bY bZ bF bL bN bX bT mcdf_37 mwd men mR mI mC mY mZ mF mmd mhi mL_92 mN mfr mX mT mct mtk) H := hP
            have hD : va_D A (RSw cI cZ b0 bR bI bC bY bZ bF bL bN bX bT mcdf_37 mwd men mR mI mC mY mZ mF mmd mhi mL_92 mN mfr mX mT mct mtk) := hD
            refine lv_iinc (v := x5_37 + (1 : Int32)) (lv' := [(5, .int (x5_37 + (1 : Int32))), (0, .ref b0), (1, .int y1_37), (2, .int y2_37), (3, .long y3_37)]) hx hb d_R_bytePut_95 hl (k := 4) rfl rfl (by decide) rfl (fun ls hl => ?_)
            refine lv_goto (tgt := 37) hx hb d_R_bytePut_98 (by decide) ?_
            exact ih (x5_37 + (1 : Int32)) mL_92 H locs ls hP hD hS (lv_sub hl [1, 2, 3, 4, 0] rfl) h
  have lp_34 : ∀ (y1_34 : Int32) (y2_34 : Int32) (y3_34 : Int64) (mcd_34 : Int32) (mL_34 : Nat → Int32) (H : Heap) (locs : List Loc) (ls : Array Slot), va_P (dC, dI) vwCl (RSw cI cZ b0 bR bI bC bY bZ bF bL bN bX bT mcd_34 mwd men mR mI mC mY mZ mF mmd mhi mL_34 mN mfr mX mT mct mtk) H → va_D A (RSw cI cZ b0 bR bI bC bY bZ bF bL bN bX bT mcd_34 mwd men mR mI mC mY mZ mF mmd mhi mL_34 mN mfr mX mT mct mtk) → va_S A s.heap H locs → lv_has ls 6 [(0, .ref b0), (1, .int y1_34), (2, .int y2_34), (3, .long y3_34)] → wqR_bytePut_34 mR mY mZ mF mN y1_34 y2_34 y3_34 mcd_34 mL_34 post → W p l e (headSpec ws_R_bytePut ({ frames := 3, cells := 0, slots := 0, locals := 62 })).room s m ([.ref b0, .int a1, .int a2, .long a3] : List Value).toArray below meth c H locs (0) (0) (MQ below (va_Qv (fun u : Int32 × (Nat → Int32) => post u.1 u.2) (rw_B (dC, dI) vwCl [(cI, .int), (cZ, .boolean)] A (fun u : Int32 × (Nat → Int32) => RSw cI cZ b0 bR bI bC bY bZ bF bL bN bX bT u.1 mwd men mR mI mC mY mZ mF mmd mhi u.2 mN mfr mX mT mct mtk)) A) ([.ref b0, .int a1, .int a2, .long a3] : List Value).toArray s 0 0 A) (F0 m 34 ls []) := by
    intro y1_34 y2_34 y3_34 mcd_34 mL_34 H locs ls hP hD hS hl h
    unfold wqR_bytePut_34 at h
    refine lv_iconst (v := (0 : Int32)) hx hb d_R_bytePut_34 (by decide) ?_
    refine lv_istore (lv' := [(5, .int (0 : Int32)), (0, .ref b0), (1, .int y1_34), (2, .int y2_34), (3, .long y3_34)]) hx hb d_R_bytePut_35 hl (by decide) rfl (fun ls hl => ?_)
    obtain ⟨n_37, h⟩ := h
    refine lp_37 y1_34 y2_34 y3_34 mcd_34 _ (fun z5_37 mLe_37 H locs ls hP hD hS hl h => ?_) n_37 (0 : Int32) mL_34 H locs ls hP hD hS (lv_sub hl [1, 2, 3, 4, 0] rfl) h
    exact W.vret hx hb hr9 (fun t ht hW => ⟨⟨(mcd_34, mLe_37), rfl, h, by rw [ht]; exact hP, va_K.moved hW.alike hK, hD⟩, hS.F ht⟩) hS.2.2 d_R_bytePut_101
  unfold wqR_bytePut at h
  refine lv_aload_n hx hb d_R_bytePut_0 rfl (lv_at hl 0 rfl) ?_
  refine lv_aload_n hx hb d_R_bytePut_1 rfl (lv_at hl 0 rfl) ?_
  refine lv_iload_n hx hb d_R_bytePut_2 rfl (lv_at hl 1 rfl) ?_
  refine rq_calli (W.runV (As := [.int a1]) (rest := [.ref b0]) ⟨hx, hb, hml, hown, hw⟩ (mR_hasBytes l dC dI cI cZ b0 bR bI bC bY bZ bF bL bN bX bT mcd mwd men mR mI mC mY mZ mF mmd mhi mL mN mfr mX mT mct mtk a1 _ h) (cwV 1 hw g_R_117 rfl rfl rfl (by decide +kernel) ⟨Nat.le_of_ble_eq_true rfl, Nat.le_of_ble_eq_true rfl⟩) (ro_PV (ci := 2) (q0 := 0) hK hP rfl rfl) rfl rfl hl.1 rfl (lv_room (Nat.le_of_ble_eq_true rfl)) d_R_bytePut_3 ⟨Nat.le_of_ble_eq_true rfl, Nat.le_of_ble_eq_true rfl⟩) (fun r3 h => ?_)
  refine lv_if_ne (tgt := 13) hx hb d_R_bytePut_6 (by decide) (fun c_6 => ?_) (fun c_6 => ?_)
  · have h := h.2 c_6
    refine lv_iload_n hx hb d_R_bytePut_13 rfl (lv_at hl 2 rfl) ?_
    refine lv_if_lt (tgt := 26) hx hb d_R_bytePut_14 (by decide) (fun c_14 => ?_) (fun c_14 => ?_)
    · have h := h.1 c_14
      refine lv_iconst (v := (2 : Int32)) hx hb d_R_bytePut_26 (by decide) ?_
      refine lv_goto (tgt := 31) hx hb d_R_bytePut_27 (by decide) ?_
      refine va_put (D := (dC, dI)) (ci := 2) (v := .int (2 : Int32)) (ty := .int) (C := R_R) (T := T_R) (N := 18) hx hb hw in_R ty_R ty_R_ok nm_R hown hK hP hD hS 0 rfl rfl 0 (by decide) (hw _ wd_616) (fun _ h9 => h9) rfl (by decide +kernel) rfl rfl (Nat.le_of_ble_eq_true rfl) d_R_bytePut_31 (fun H locs hP hD hS => ?_)
      have hP : va_P (dC, dI) vwCl (RSw cI cZ b0 bR bI bC bY bZ bF bL bN bX bT (2 : Int32) mwd men mR mI mC mY mZ mF mmd mhi mL mN mfr mX mT mct mtk) H := hP
      have hD : va_D A (RSw cI cZ b0 bR bI bC bY bZ bF bL bN bX bT (2 : Int32) mwd men mR mI mC mY mZ mF mmd mhi mL mN mfr mX mT mct mtk) := hD
      exact lp_34 a1 a2 a3 (2 : Int32) mL H locs ls hP hD hS (lv_sub hl [0, 1, 2, 3] rfl) h
    · have h := h.2 c_14
      refine lv_iload_n hx hb d_R_bytePut_17 rfl (lv_at hl 2 rfl) ?_
      refine lv_aload_n hx hb d_R_bytePut_18 rfl (lv_at hl 0 rfl) ?_
      refine lv_iload_n hx hb d_R_bytePut_19 rfl (lv_at hl 1 rfl) ?_
      refine rq_calli (W.runV (As := [.int a1]) (rest := [.int a2, .ref b0]) ⟨hx, hb, hml, hown, hw⟩ (mR_sizeOf l dC dI cI cZ b0 bR bI bC bY bZ bF bL bN bX bT mcd mwd men mR mI mC mY mZ mF mmd mhi mL mN mfr mX mT mct mtk a1 _ h) (cwV 1 hw g_R_114 rfl rfl rfl (by decide +kernel) ⟨Nat.le_of_ble_eq_true rfl, Nat.le_of_ble_eq_true rfl⟩) (ro_PV (ci := 2) (q0 := 0) hK hP rfl rfl) rfl rfl hl.1 rfl (lv_room (Nat.le_of_ble_eq_true rfl)) d_R_bytePut_20 ⟨Nat.le_of_ble_eq_true rfl, Nat.le_of_ble_eq_true rfl⟩) (fun r20 h => ?_)
      refine lv_icmp_lt (tgt := 30) hx hb d_R_bytePut_23 (by decide) (fun c_23 => ?_) (fun c_23 => ?_)
      · have h := h.1 c_23
        refine lv_iconst (v := (0 : Int32)) hx hb d_R_bytePut_30 (by decide) ?_
        refine va_put (D := (dC, dI)) (ci := 2) (v := .int (0 : Int32)) (ty := .int) (C := R_R) (T := T_R) (N := 18) hx hb hw in_R ty_R ty_R_ok nm_R hown hK hP hD hS 0 rfl rfl 0 (by decide) (hw _ wd_616) (fun _ h9 => h9) rfl (by decide +kernel) rfl rfl (Nat.le_of_ble_eq_true rfl) d_R_bytePut_31 (fun H locs hP hD hS => ?_)
        have hP : va_P (dC, dI) vwCl (RSw cI cZ b0 bR bI bC bY bZ bF bL bN bX bT (0 : Int32) mwd men mR mI mC mY mZ mF mmd mhi mL mN mfr mX mT mct mtk) H := hP
        have hD : va_D A (RSw cI cZ b0 bR bI bC bY bZ bF bL bN bX bT (0 : Int32) mwd men mR mI mC mY mZ mF mmd mhi mL mN mfr mX mT mct mtk) := hD
        exact lp_34 a1 a2 a3 (0 : Int32) mL H locs ls hP hD hS (lv_sub hl [0, 1, 2, 3] rfl) h
      · have h := h.2 c_23
        refine lv_iconst (v := (2 : Int32)) hx hb d_R_bytePut_26 (by decide) ?_
        refine lv_goto (tgt := 31) hx hb d_R_bytePut_27 (by decide) ?_
        refine va_put (D := (dC, dI)) (ci := 2) (v := .int (2 : Int32)) (ty := .int) (C := R_R) (T := T_R) (N := 18) hx hb hw in_R ty_R ty_R_ok nm_R hown hK hP hD hS 0 rfl rfl 0 (by decide) (hw _ wd_616) (fun _ h9 => h9) rfl (by decide +kernel) rfl rfl (Nat.le_of_ble_eq_true rfl) d_R_bytePut_31 (fun H locs hP hD hS => ?_)
        have hP : va_P (dC, dI) vwCl (RSw cI cZ b0 bR bI bC bY bZ bF bL bN bX bT (2 : Int32) mwd men mR mI mC mY mZ mF mmd mhi mL mN mfr mX mT mct mtk) H := hP
        have hD : va_D A (RSw cI cZ b0 bR bI bC bY bZ bF bL bN bX bT (2 : Int32) mwd men mR mI mC mY mZ mF mmd mhi mL mN mfr mX mT mct mtk) := hD
        exact lp_34 a1 a2 a3 (2 : Int32) mL H locs ls hP hD hS (lv_sub hl [0, 1, 2, 3] rfl) h
  · have h := h.1 c_6
    refine lv_iconst (v := (1 : Int32)) hx hb d_R_bytePut_9 (by decide) ?_
    refine lv_goto (tgt := 31) hx hb d_R_bytePut_10 (by decide) ?_
    refine va_put (D := (dC, dI)) (ci := 2) (v := .int (1 : Int32)) (ty := .int) (C := R_R) (T := T_R) (N := 18) hx hb hw in_R ty_R ty_R_ok nm_R hown hK hP hD hS 0 rfl rfl 0 (by decide) (hw _ wd_616) (fun _ h9 => h9) rfl (by decide +kernel) rfl rfl (Nat.le_of_ble_eq_true rfl) d_R_bytePut_31 (fun H locs hP hD hS => ?_)
    have hP : va_P (dC, dI) vwCl (RSw cI cZ b0 bR bI bC bY bZ bF bL bN bX bT (1 : Int32) mwd men mR mI mC mY mZ mF mmd mhi mL mN mfr mX mT mct mtk) H := hP
    have hD : va_D A (RSw cI cZ b0 bR bI bC bY bZ bF bL bN bX bT (1 : Int32) mwd men mR mI mC mY mZ mF mmd mhi mL mN mfr mX mT mct mtk) := hD
    exact lp_34 a1 a2 a3 (1 : Int32) mL H locs ls hP hD hS (lv_sub hl [0, 1, 2, 3] rfl) h
def wqR_sum_31 (mR : Nat → Int32) (mY : Nat → Int32) (mZ : Nat → Int32) (mF : Nat → Int32) (mL : Nat → Int32) (mN : Nat → Int32) (y1_31 : Int32) (mcd_31 : Int32) (post : Int32 → Int32 → Prop) : Prop :=
  post (0 : Int32) mcd_31
def wqR_sum_66 (mR : Nat → Int32) (mY : Nat → Int32) (mZ : Nat → Int32) (mF : Nat → Int32) (mL : Nat → Int32) (mN : Nat → Int32) (y1_66 : Int32) (y4_66 : Int32) (mcdf_66 : Int32) (post : Int32 → Int32 → Prop) (kx : Int32 → Int32 → Int32 → Prop) : Nat → Int32 → Int32 → Int32 → Prop
  | 0, _, _, _ => False
  | n + 1, x2_66, x3_66, x5_66 =>
    ((4 : Int32) ≤ x5_66 → (kx x2_66 x3_66 x5_66)) ∧ (¬ ((4 : Int32) ≤ x5_66) → ((x3_66 ≤ 0 → (kx x2_66 x3_66 x5_66)) ∧ (¬ (x3_66 ≤ 0) → (vp_in y4_66 65536 ∧ (wqR_sum_66 mR mY mZ mF mL mN y1_66 y4_66 mcdf_66 post kx n (((31 : Int32) * x2_66) + ((((mL y4_66.toNatClampNeg).toUInt32 >>> (((24 : Int32) - ((8 : Int32) * x5_66)).toUInt32 &&& Int32.toUInt32 31)).toInt32) &&& (255 : Int32))) (x3_66 - (1 : Int32)) (x5_66 + (1 : Int32)))))))
def wqR_sum_58 (mR : Nat → Int32) (mY : Nat → Int32) (mZ : Nat → Int32) (mF : Nat → Int32) (mL : Nat → Int32) (mN : Nat → Int32) (y1_58 : Int32) (mcdf_58 : Int32) (post : Int32 → Int32 → Prop) (kx : Int32 → Int32 → Int32 → Prop) : Nat → Int32 → Int32 → Int32 → Prop
  | 0, _, _, _ => False
  | n + 1, x2_58, x3_58, x4_58 =>
    (x4_58 < 0 → (kx x2_58 x3_58 x4_58)) ∧ (¬ (x4_58 < 0) → (∃ k_66, wqR_sum_66 mR mY mZ mF mL mN y1_58 x4_58 mcdf_58 post (fun z2_66 z3_66 z5_66 => vp_in x4_58 65536 ∧ (wqR_sum_58 mR mY mZ mF mL mN y1_58 mcdf_58 post kx n z2_66 z3_66 (mN x4_58.toNatClampNeg))) k_66 x2_58 x3_58 (0 : Int32)))
def wqR_sum_16 (mR : Nat → Int32) (mY : Nat → Int32) (mZ : Nat → Int32) (mF : Nat → Int32) (mL : Nat → Int32) (mN : Nat → Int32) (y1_16 : Int32) (mcd_16 : Int32) (post : Int32 → Int32 → Prop) : Prop :=
  (0 < mcd_16 → (wqR_sum_31 mR mY mZ mF mL mN y1_16 mcd_16 post)) ∧ (¬ (0 < mcd_16) → (wqR_hasBytes mR mY y1_16 (fun r25 => (r25 = 0 → (wqR_sum_31 mR mY mZ mF mL mN y1_16 mcd_16 post)) ∧ (¬ (r25 = 0) → (wqR_sizeOf mR mZ y1_16 (fun r38 => vp_in y1_16 32 ∧ (wqR_placeOf (mR y1_16.toNatClampNeg) (fun r52 => vp_in r52 8192 ∧ (∃ k_58, wqR_sum_58 mR mY mZ mF mL mN y1_16 mcd_16 post (fun z2_58 z3_58 z4_58 => post z2_58 mcd_16) k_58 (7 : Int32) r38 (mF r52.toNatClampNeg))))))))))
def wqR_sum (mcd : Int32) (mR : Nat → Int32) (mY : Nat → Int32) (mZ : Nat → Int32) (mF : Nat → Int32) (mL : Nat → Int32) (mN : Nat → Int32) (a1 : Int32) (post : Int32 → Int32 → Prop) : Prop :=
  wqR_isRegister a1 (fun r2 => (r2 = 0 → (wqR_sum_16 mR mY mZ mF mL mN a1 (1 : Int32) post)) ∧ (¬ (r2 = 0) → (wqR_sum_16 mR mY mZ mF mL mN a1 (0 : Int32) post)))
set_option maxHeartbeats 4000000 in
set_option maxRecDepth 100000 in
theorem mR_sum (l : Launch) (dC : Nat → ClassId) (dI : Nat → Nat → Nat) (cI : ClassId) (cZ : ClassId) (b0 : Nat) (bR : Nat) (bI : Nat) (bC : Nat) (bY : Nat) (bZ : Nat) (bF : Nat) (bL : Nat) (bN : Nat) (bX : Nat) (bT : Nat) (sz : Nat) (mcd : Int32) (mwd : Int32) (men : Int32) (mR : Nat → Int32) (mI : Nat → Int32) (mC : Nat → Int32) (mY : Nat → Int32) (mZ : Nat → Int32) (mF : Nat → Int32) (mmd : Int32) (mhi : Int32) (mL : Nat → Int32) (mN : Nat → Int32) (mfr : Int32) (mX : Nat → Int32) (mT : Nat → Int32) (mct : Int32) (mtk : Int32) (a1 : Int32) (post : Int32 → Int32 → Prop) (h : wqR_sum mcd mR mY mZ mF mL mN a1 post) : Met l y_R_sum ws_R_sum ({ frames := 3, cells := 0, slots := 0, locals := 62 }) (rw_P (dC, dI) vwCl (RSw cI cZ b0 bR bI bC bY bZ bF bL bN bX bT mcd mwd men mR mI mC mY mZ mF mmd mhi mL mN mfr mX mT mct mtk) [(cI, .int), (cZ, .boolean)] sz [.ref b0, .int a1]) (va_Qi (fun (r : Int32) (u : Int32) => post r u) (rw_B (dC, dI) vwCl [(cI, .int), (cZ, .boolean)] (va_A (RSw cI cZ b0 bR bI bC bY bZ bF bL bN bX bT mcd mwd men mR mI mC mY mZ mF mmd mhi mL mN mfr mX mT mct mtk) sz) (fun u : Int32 => RSw cI cZ b0 bR bI bC bY bZ bF bL bN bX bT u mwd men mR mI mC mY mZ mF mmd mhi mL mN mfr mX mT mct mtk)) (va_A (RSw cI cZ b0 bR bI bC bY bZ bF bL bN bX bT mcd mwd men mR mI mC mY mZ mF mmd mhi mL mN mfr mX mT mct mtk) sz)) 0 0 (va_A (RSw cI cZ b0 bR bI bC bY bZ bF bL bN bX bT mcd mwd men mR mI mC mY mZ mF mmd mhi mL mN mfr mX mT mct mtk) sz) := by
  refine Met.ofW (cc := c_R_sum) (maxL := 6) (ret := (some .int)) (by decide) rfl ?_
  intro p e s m args below meth c s₁ B hml hv
  obtain ⟨rfl, hsz, hP, hK, hD0⟩ := hv
  have hx := B.exec
  have hb := B.bytes
  have hr9 := B.returns
  have hts := atoms_spec (ws := ws_R_sum) B.pre
  have hw : ∀ w ∈ WB_, w.before _ s = true := fun w h => hts w (List.mem_cons_of_mem _ h)
  have hown : s.vm.findClass R_R = some m.cls := findClass_of_methodNamed B.named
  have hlocks := B.notSynchronized
  subst hsz
  have hD := hD0.self (sz := s.heap.size)
  generalize hAe : va_A (RSw cI cZ b0 bR bI bC bY bZ bF bL bN bX bT mcd mwd men mR mI mC mY mZ mF mmd mhi mL mN mfr mX mT mct mtk) s.heap.size = A at hD ⊢
  have hA : ∀ q : Nat, s.heap.size ≤ q → A q := fun q h => by rw [← hAe]; exact Or.inr h
  have hS : va_S A s.heap s.heap [] := va_S.rf
  have hl := lv_entry ([.ref b0, .int a1]) (n := 6) (Nat.le_of_ble_eq_true rfl)
  rw [lg_entry_eq]
  generalize (lg_sl ([.ref b0, .int a1]) ++ List.replicate (6 - (lg_sl ([.ref b0, .int a1])).length) Slot.unset).toArray = ls at hl ⊢
  have hl : lv_has ls 6 [(0, .ref b0), (1, .int a1)] := hl
  have lp_31 : ∀ (y1_31 : Int32) (mcd_31 : Int32) (H : Heap) (locs : List Loc) (ls : Array Slot), va_P (dC, dI) vwCl (RSw cI cZ b0 bR bI bC bY bZ bF bL bN bX bT mcd_31 mwd men mR mI mC mY mZ mF mmd mhi mL mN mfr mX mT mct mtk) H → va_D A (RSw cI cZ b0 bR bI bC bY bZ bF bL bN bX bT mcd_31 mwd men mR mI mC mY mZ mF mmd mhi mL mN mfr mX mT mct mtk) → va_S A s.heap H locs → lv_has ls 6 [(0, .ref b0), (1, .int y1_31)] → wqR_sum_31 mR mY mZ mF mL mN y1_31 mcd_31 post → W p l e (headSpec ws_R_sum ({ frames := 3, cells := 0, slots := 0, locals := 62 })).room s m ([.ref b0, .int a1] : List Value).toArray below meth c H locs (0) (0) (MQ below (va_Qi (fun (r : Int32) (u : Int32) => post r u) (rw_B (dC, dI) vwCl [(cI, .int), (cZ, .boolean)] A (fun u : Int32 => RSw cI cZ b0 bR bI bC bY bZ bF bL bN bX bT u mwd men mR mI mC mY mZ mF mmd mhi mL mN mfr mX mT mct mtk)) A) ([.ref b0, .int a1] : List Value).toArray s 0 0 A) (F0 m 31 ls []) := by
    intro y1_31 mcd_31 H locs ls hP hD hS hl h
    unfold wqR_sum_31 at h
    refine lv_iconst (v := (0 : Int32)) hx hb d_R_sum_31 (by decide) ?_
    exact W.iret (v := (0 : Int32)) hx hb hr9 (fun t ht hW => ⟨⟨_, (mcd_31), rfl, h, by rw [ht]; exact hP, va_K.moved hW.alike hK, hD⟩, hS.F ht⟩) hS.2.2 d_R_sum_32
  have lp_66 : ∀ (y1_66 : Int32) (y4_66 : Int32) (mcdf_66 : Int32) (kx : Int32 → Int32 → Int32 → Prop), (∀ (z2_66 : Int32) (z3_66 : Int32) (z5_66 : Int32) (H : Heap) (locs : List Loc) (ls : Array Slot), va_P (dC, dI) vwCl (RSw cI cZ b0 bR bI bC bY bZ bF bL bN bX bT mcdf_66 mwd men mR mI mC mY mZ mF mmd mhi mL mN mfr mX mT mct mtk) H → va_D A (RSw cI cZ b0 bR bI bC bY bZ bF bL bN bX bT mcdf_66 mwd men mR mI mC mY mZ mF mmd mhi mL mN mfr mX mT mct mtk) → va_S A s.heap H locs → lv_has ls 6 [(0, .ref b0), (1, .int y1_66), (2, .int z2_66), (3, .int z3_66), (4, .int y4_66), (5, .int z5_66)] → kx z2_66 z3_66 z5_66 → W p l e (headSpec ws_R_sum ({ frames := 3, cells := 0, slots := 0, locals := 62 })).room s m ([.ref b0, .int a1] : List Value).toArray below meth c H locs (0) (0) (MQ below (va_Qi (fun (r : Int32) (u : Int32) => post r u) (rw_B (dC, dI) vwCl [(cI, .int), (cZ, .boolean)] A (fun u : Int32 => RSw cI cZ b0 bR bI bC bY bZ bF bL bN bX bT u mwd men mR mI mC mY mZ mF mmd mhi mL mN mfr mX mT mct mtk)) A) ([.ref b0, .int a1] : List Value).toArray s 0 0 A) (F0 m 112 ls [])) → ∀ (n : Nat) (x2_66 : Int32) (x3_66 : Int32) (x5_66 : Int32) (H : Heap) (locs : List Loc) (ls : Array Slot), va_P (dC, dI) vwCl (RSw cI cZ b0 bR bI bC bY bZ bF bL bN bX bT mcdf_66 mwd men mR mI mC mY mZ mF mmd mhi mL mN mfr mX mT mct mtk) H → va_D A (RSw cI cZ b0 bR bI bC bY bZ bF bL bN bX bT mcdf_66 mwd men mR mI mC mY mZ mF mmd mhi mL mN mfr mX mT mct mtk) → va_S A s.heap H locs → lv_has ls 6 [(0, .ref b0), (1, .int y1_66), (2, .int x2_66), (3, .int x3_66), (4, .int y4_66), (5, .int x5_66)] → wqR_sum_66 mR mY mZ mF mL mN y1_66 y4_66 mcdf_66 post kx n x2_66 x3_66 x5_66 → W p l e (headSpec ws_R_sum ({ frames := 3, cells := 0, slots := 0, locals := 62 })).room s m ([.ref b0, .int a1] : List Value).toArray below meth c H locs (0) (0) (MQ below (va_Qi (fun (r : Int32) (u : Int32) => post r u) (rw_B (dC, dI) vwCl [(cI, .int), (cZ, .boolean)] A (fun u : Int32 => RSw cI cZ b0 bR bI bC bY bZ bF bL bN bX bT u mwd men mR mI mC mY mZ mF mmd mhi mL mN mfr mX mT mct mtk)) A) ([.ref b0, .int a1] : List Value).toArray s 0 0 A) (F0 m 66 ls []) := by
    intro y1_66 y4_66 mcdf_66 kx K n
    induction n with
    | zero => intro x2_66 x3_66 x5_66 H locs ls hP hD hS hl h; exact h.elim
    | succ n ih =>
      intro x2_66 x3_66 x5_66 H locs ls hP hD hS hl h
      refine lv_iload hx hb d_R_sum_66 (lv_at hl 5 rfl) ?_
      refine lv_iconst (v := (4 : Int32)) hx hb d_R_sum_68 (by decide) ?_
      refine lv_icmp_ge (tgt := 112) hx hb d_R_sum_69 (by decide) (fun c_69 => ?_) (fun c_69 => ?_)
      · have h := h.1 c_69
        exact K x2_66 x3_66 x5_66 H locs ls hP hD hS (lv_sub hl [0, 1, 2, 3, 4, 5] rfl) h
      · have h := h.2 c_69
        refine lv_iload_n hx hb d_R_sum_72 rfl (lv_at hl 3 rfl) ?_
        refine lv_if_le (tgt := 112) hx hb d_R_sum_73 (by decide) (fun c_73 => ?_) (fun c_73 => ?_)
        · have h := h.1 c_73
          exact K x2_66 x3_66 x5_66 H locs ls hP hD hS (lv_sub hl [0, 1, 2, 3, 4, 5] rfl) h
        · have h := h.2 c_73
          refine lv_bipush (v := (31 : Int32)) hx hb d_R_sum_76 (by decide) ?_
          refine lv_iload_n hx hb d_R_sum_78 rfl (lv_at hl 2 rfl) ?_
          refine lv_imul hx hb d_R_sum_79 ?_
          refine lv_aload_n hx hb d_R_sum_80 rfl (lv_at hl 0 rfl) ?_
          refine va_get (D := (dC, dI)) (ci := 2) (v := .ref bL) (C := R_R) (T := T_R) (N := 18) hx hb hw in_R hown hK hP 0 rfl rfl 11 (by decide) (hw _ wd_627) (fun _ h9 => h9) rfl d_R_sum_81 ?_
          refine lv_iload hx hb d_R_sum_84 (lv_at hl 4 rfl) ?_
          refine va_iald hx hb hK hP 7 0 rfl rfl h.1 d_R_sum_86 ?_
          have h := h.2
          refine lv_bipush (v := (24 : Int32)) hx hb d_R_sum_87 (by decide) ?_
          refine lv_bipush (v := (8 : Int32)) hx hb d_R_sum_89 (by decide) ?_
          refine lv_iload hx hb d_R_sum_91 (lv_at hl 5 rfl) ?_
          refine lv_imul hx hb d_R_sum_93 ?_
          refine lv_isub hx hb d_R_sum_94 ?_
          refine lv_iushr (v := ((mL y4_66.toNatClampNeg).toUInt32 >>> (((24 : Int32) - ((8 : Int32) * x5_66)).toUInt32 &&& Int32.toUInt32 31)).toInt32) hx hb d_R_sum_95 rfl ?_
          refine lv_sipush (v := (255 : Int32)) hx hb d_R_sum_96 (by decide) ?_
          refine lv_iand hx hb d_R_sum_99 ?_
          refine lv_iadd hx hb d_R_sum_100 ?_
          refine lv_istore_n (lv' := [(2, .int (((31 : Int32) * x2_66) + ((((mL y4_66.toNatClampNeg).toUInt32 >>> (((24 : Int32) - ((8 : Int32) * x5_66)).toUInt32 &&& Int32.toUInt32 31)).toInt32) &&& (255 : Int32)))), (0, .ref b0), (1, .int y1_66), (3, .int x3_66), (4, .int y4_66), (5, .int x5_66)]) hx hb d_R_sum_101 rfl hl (by decide) rfl (fun ls hl => ?_)
          refine lv_iload_n hx hb d_R_sum_102 rfl (lv_at hl 3 rfl) ?_
          refine lv_iconst (v := (1 : Int32)) hx hb d_R_sum_103 (by decide) ?_
          refine lv_isub hx hb d_R_sum_104 ?_
          refine lv_istore_n (lv' := [(3, .int (x3_66 - (1 : Int32))), (2, .int (((31 : Int32) * x2_66) + ((((mL y4_66.toNatClampNeg).toUInt32 >>> (((24 : Int32) - ((8 : Int32) * x5_66)).toUInt32 &&& Int32.toUInt32 31)).toInt32) &&& (255 : Int32)))), (0, .ref b0), (1, .int y1_66), (4, .int y4_66), (5, .int x5_66)]) hx hb d_R_sum_105 rfl hl (by decide) rfl (fun ls hl => ?_)
          refine lv_iinc (v := x5_66 + (1 : Int32)) (lv' := [(5, .int (x5_66 + (1 : Int32))), (3, .int (x3_66 - (1 : Int32))), (2, .int (((31 : Int32) * x2_66) + ((((mL y4_66.toNatClampNeg).toUInt32 >>> (((24 : Int32) - ((8 : Int32) * x5_66)).toUInt32 &&& Int32.toUInt32 31)).toInt32) &&& (255 : Int32)))), (0, .ref b0), (1, .int y1_66), (4, .int y4_66)]) hx hb d_R_sum_106 hl (k := 5) rfl rfl (by decide) rfl (fun ls hl => ?_)
          refine lv_goto (tgt := 66) hx hb d_R_sum_109 (by decide) ?_
          exact ih (((31 : Int32) * x2_66) + ((((mL y4_66.toNatClampNeg).toUInt32 >>> (((24 : Int32) - ((8 : Int32) * x5_66)).toUInt32 &&& Int32.toUInt32 31)).toInt32) &&& (255 : Int32))) (x3_66 - (1 : Int32)) (x5_66 + (1 : Int32)) H locs ls hP hD hS (lv_sub hl [3, 4, 2, 1, 5, 0] rfl) h
  have lp_58 : ∀ (y1_58 : Int32) (mcdf_58 : Int32) (kx : Int32 → Int32 → Int32 → Prop), (∀ (z2_58 : Int32) (z3_58 : Int32) (z4_58 : Int32) (H : Heap) (locs : List Loc) (ls : Array Slot), va_P (dC, dI) vwCl (RSw cI cZ b0 bR bI bC bY bZ bF bL bN bX bT mcdf_58 mwd men mR mI mC mY mZ mF mmd mhi mL mN mfr mX mT mct mtk) H → va_D A (RSw cI cZ b0 bR bI bC bY bZ bF bL bN bX bT mcdf_58 mwd men mR mI mC mY mZ mF mmd mhi mL mN mfr mX mT mct mtk) → va_S A s.heap H locs → lv_has ls 6 [(0, .ref b0), (1, .int y1_58), (2, .int z2_58), (3, .int z3_58), (4, .int z4_58)] → kx z2_58 z3_58 z4_58 → W p l e (headSpec ws_R_sum ({ frames := 3, cells := 0, slots := 0, locals := 62 })).room s m ([.ref b0, .int a1] : List Value).toArray below meth c H locs (0) (0) (MQ below (va_Qi (fun (r : Int32) (u : Int32) => post r u) (rw_B (dC, dI) vwCl [(cI, .int), (cZ, .boolean)] A (fun u : Int32 => RSw cI cZ b0 bR bI bC bY bZ bF bL bN bX bT u mwd men mR mI mC mY mZ mF mmd mhi mL mN mfr mX mT mct mtk)) A) ([.ref b0, .int a1] : List Value).toArray s 0 0 A) (F0 m 124 ls [])) → ∀ (n : Nat) (x2_58 : Int32) (x3_58 : Int32) (x4_58 : Int32) (H : Heap) (locs : List Loc) (ls : Array Slot), va_P (dC, dI) vwCl (RSw cI cZ b0 bR bI bC bY bZ bF bL bN bX bT mcdf_58 mwd men mR mI mC mY mZ mF mmd mhi mL mN mfr mX mT mct mtk) H → va_D A (RSw cI cZ b0 bR bI bC bY bZ bF bL bN bX bT mcdf_58 mwd men mR mI mC mY mZ mF mmd mhi mL mN mfr mX mT mct mtk) → va_S A s.heap H locs → lv_has ls 6 [(0, .ref b0), (1, .int y1_58), (2, .int x2_58), (3, .int x3_58), (4, .int x4_58)] → wqR_sum_58 mR mY mZ mF mL mN y1_58 mcdf_58 post kx n x2_58 x3_58 x4_58 → W p l e (headSpec ws_R_sum ({ frames := 3, cells := 0, slots := 0, locals := 62 })).room s m ([.ref b0, .int a1] : List Value).toArray below meth c H locs (0) (0) (MQ below (va_Qi (fun (r : Int32) (u : Int32) => post r u) (rw_B (dC, dI) vwCl [(cI, .int), (cZ, .boolean)] A (fun u : Int32 => RSw cI cZ b0 bR bI bC bY bZ bF bL bN bX bT u mwd men mR mI mC mY mZ mF mmd mhi mL mN mfr mX mT mct mtk)) A) ([.ref b0, .int a1] : List Value).toArray s 0 0 A) (F0 m 58 ls []) := by
    intro y1_58 mcdf_58 kx K n
    induction n with
    | zero => intro x2_58 x3_58 x4_58 H locs ls hP hD hS hl h; exact h.elim
    | succ n ih =>
      intro x2_58 x3_58 x4_58 H locs ls hP hD hS hl h
      refine lv_iload hx hb d_R_sum_58 (lv_at hl 4 rfl) ?_
      refine lv_if_lt (tgt := 124) hx hb d_R_sum_60 (by decide) (fun c_60 => ?_) (fun c_60 => ?_)
      · have h := h.1 c_60
        exact K x2_58 x3_58 x4_58 H locs ls hP hD hS (lv_sub hl [0, 1, 2, 3, 4] rfl) h
      · have h := h.2 c_60
        refine lv_iconst (v := (0 : Int32)) hx hb d_R_sum_63 (by decide) ?_
        refine lv_istore (lv' := [(5, .int (0 : Int32)), (0, .ref b0), (1, .int y1_58), (2, .int x2_58), (3, .int x3_58), (4, .int x4_58)]) hx hb d_R_sum_64 hl (by decide) rfl (fun ls hl => ?_)
        obtain ⟨n_66, h⟩ := h
        refine lp_66 y1_58 x4_58 mcdf_58 _ (fun z2_66 z3_66 z5_66 H locs ls hP hD hS hl h => ?_) n_66 x2_58 x3_58 (0 : Int32) H locs ls hP hD hS (lv_sub hl [1, 2, 3, 4, 5, 0] rfl) h
        refine lv_aload_n hx hb d_R_sum_112 rfl (lv_at hl 0 rfl) ?_
        refine va_get (D := (dC, dI)) (ci := 2) (v := .ref bN) (C := R_R) (T := T_R) (N := 18) hx hb hw in_R hown hK hP 0 rfl rfl 12 (by decide) (hw _ wd_628) (fun _ h9 => h9) rfl d_R_sum_113 ?_
        refine lv_iload hx hb d_R_sum_116 (lv_at hl 4 rfl) ?_
        refine va_iald hx hb hK hP 8 0 rfl rfl h.1 d_R_sum_118 ?_
        have h := h.2
        refine lv_istore (lv' := [(4, .int (mN x4_58.toNatClampNeg)), (0, .ref b0), (1, .int y1_58), (2, .int z2_66), (3, .int z3_66), (5, .int z5_66)]) hx hb d_R_sum_119 hl (by decide) rfl (fun ls hl => ?_)
        refine lv_goto (tgt := 58) hx hb d_R_sum_121 (by decide) ?_
        exact ih z2_66 z3_66 (mN x4_58.toNatClampNeg) H locs ls hP hD hS (lv_sub hl [1, 2, 3, 4, 0] rfl) h
  have lp_16 : ∀ (y1_16 : Int32) (mcd_16 : Int32) (H : Heap) (locs : List Loc) (ls : Array Slot), va_P (dC, dI) vwCl (RSw cI cZ b0 bR bI bC bY bZ bF bL bN bX bT mcd_16 mwd men mR mI mC mY mZ mF mmd mhi mL mN mfr mX mT mct mtk) H → va_D A (RSw cI cZ b0 bR bI bC bY bZ bF bL bN bX bT mcd_16 mwd men mR mI mC mY mZ mF mmd mhi mL mN mfr mX mT mct mtk) → va_S A s.heap H locs → lv_has ls 6 [(0, .ref b0), (1, .int y1_16)] → wqR_sum_16 mR mY mZ mF mL mN y1_16 mcd_16 post → W p l e (headSpec ws_R_sum ({ frames := 3, cells := 0, slots := 0, locals := 62 })).room s m ([.ref b0, .int a1] : List Value).toArray below meth c H locs (0) (0) (MQ below (va_Qi (fun (r : Int32) (u : Int32) => post r u) (rw_B (dC, dI) vwCl [(cI, .int), (cZ, .boolean)] A (fun u : Int32 => RSw cI cZ b0 bR bI bC bY bZ bF bL bN bX bT u mwd men mR mI mC mY mZ mF mmd mhi mL mN mfr mX mT mct mtk)) A) ([.ref b0, .int a1] : List Value).toArray s 0 0 A) (F0 m 16 ls []) := by
    intro y1_16 mcd_16 H locs ls hP hD hS hl h
    unfold wqR_sum_16 at h
    refine lv_aload_n hx hb d_R_sum_16 rfl (lv_at hl 0 rfl) ?_
    refine va_get (D := (dC, dI)) (ci := 2) (v := .int mcd_16) (C := R_R) (T := T_R) (N := 18) hx hb hw in_R hown hK hP 0 rfl rfl 0 (by decide) (hw _ wd_616) (fun _ h9 => h9) rfl d_R_sum_17 ?_
    refine lv_if_gt (tgt := 31) hx hb d_R_sum_20 (by decide) (fun c_20 => ?_) (fun c_20 => ?_)
    · have h := h.1 c_20
      exact lp_31 y1_16 mcd_16 H locs ls hP hD hS (lv_sub hl [0, 1] rfl) h
    · have h := h.2 c_20
      refine lv_aload_n hx hb d_R_sum_23 rfl (lv_at hl 0 rfl) ?_
      refine lv_iload_n hx hb d_R_sum_24 rfl (lv_at hl 1 rfl) ?_
      refine rq_calli (W.runV (As := [.int y1_16]) (rest := []) ⟨hx, hb, hml, hown, hw⟩ (mR_hasBytes l dC dI cI cZ b0 bR bI bC bY bZ bF bL bN bX bT mcd_16 mwd men mR mI mC mY mZ mF mmd mhi mL mN mfr mX mT mct mtk y1_16 _ h) (cwV 1 hw g_R_117 rfl rfl rfl (by decide +kernel) ⟨Nat.le_of_ble_eq_true rfl, Nat.le_of_ble_eq_true rfl⟩) (ro_PV (ci := 2) (q0 := 0) hK hP rfl rfl) rfl rfl hl.1 rfl (lv_room (Nat.le_of_ble_eq_true rfl)) d_R_sum_25 ⟨Nat.le_of_ble_eq_true rfl, Nat.le_of_ble_eq_true rfl⟩) (fun r25 h => ?_)
      refine lv_if_ne (tgt := 33) hx hb d_R_sum_28 (by decide) (fun c_28 => ?_) (fun c_28 => ?_)
      · have h := h.2 c_28
        refine lv_bipush (v := (7 : Int32)) hx hb d_R_sum_33 (by decide) ?_
        refine lv_istore_n (lv' := [(2, .int (7 : Int32)), (0, .ref b0), (1, .int y1_16)]) hx hb d_R_sum_35 rfl hl (by decide) rfl (fun ls hl => ?_)
        refine lv_aload_n hx hb d_R_sum_36 rfl (lv_at hl 1 rfl) ?_
        refine lv_iload_n hx hb d_R_sum_37 rfl (lv_at hl 2 rfl) ?_
        refine rq_calli (W.runV (As := [.int y1_16]) (rest := []) ⟨hx, hb, hml, hown, hw⟩ (mR_sizeOf l dC dI cI cZ b0 bR bI bC bY bZ bF bL bN bX bT mcd_16 mwd men mR mI mC mY mZ mF mmd mhi mL mN mfr mX mT mct mtk y1_16 _ h) (cwV 1 hw g_R_114 rfl rfl rfl (by decide +kernel) ⟨Nat.le_of_ble_eq_true rfl, Nat.le_of_ble_eq_true rfl⟩) (ro_PV (ci := 2) (q0 := 0) hK hP rfl rfl) rfl rfl hl.1 rfl (lv_room (Nat.le_of_ble_eq_true rfl)) d_R_sum_38 ⟨Nat.le_of_ble_eq_true rfl, Nat.le_of_ble_eq_true rfl⟩) (fun r38 h => ?_)
        refine lv_istore_n (lv' := [(3, .int r38), (2, .int (7 : Int32)), (0, .ref b0), (1, .int y1_16)]) hx hb d_R_sum_41 rfl hl (by decide) rfl (fun ls hl => ?_)
        refine lv_aload_n hx hb d_R_sum_42 rfl (lv_at hl 2 rfl) ?_
        refine va_get (D := (dC, dI)) (ci := 2) (v := .ref bF) (C := R_R) (T := T_R) (N := 18) hx hb hw in_R hown hK hP 0 rfl rfl 8 (by decide) (hw _ wd_624) (fun _ h9 => h9) rfl d_R_sum_43 ?_
        refine lv_aload_n hx hb d_R_sum_46 rfl (lv_at hl 2 rfl) ?_
        refine va_get (D := (dC, dI)) (ci := 2) (v := .ref bR) (C := R_R) (T := T_R) (N := 18) hx hb hw in_R hown hK hP 0 rfl rfl 3 (by decide) (hw _ wd_619) (fun _ h9 => h9) rfl d_R_sum_47 ?_
        refine lv_iload_n hx hb d_R_sum_50 rfl (lv_at hl 3 rfl) ?_
        refine va_iald hx hb hK hP 1 0 rfl rfl h.1 d_R_sum_51 ?_
        have h := h.2
        refine rq_calli (W.runS (As := [.int (mR y1_16.toNatClampNeg)]) (rest := [.ref bF]) ⟨hx, hb, hml, hown, hw⟩ (mR_placeOf l (mR y1_16.toNatClampNeg) _ h) (va_cwS 1 hw g_R_62 rfl rfl rfl (by decide +kernel) ⟨Nat.le_of_ble_eq_true rfl, Nat.le_of_ble_eq_true rfl⟩) preEq rfl rfl hl.1 rfl (lv_room (Nat.le_of_ble_eq_true rfl)) d_R_sum_52 ⟨Nat.le_of_ble_eq_true rfl, Nat.le_of_ble_eq_true rfl⟩) (fun r52 h => ?_)
        refine va_iald hx hb hK hP 6 0 rfl rfl h.1 d_R_sum_55 ?_
        have h := h.2
        refine lv_istore (lv' := [(4, .int (mF r52.toNatClampNeg)), (3, .int r38), (2, .int (7 : Int32)), (0, .ref b0), (1, .int y1_16)]) hx hb d_R_sum_56 hl (by decide) rfl (fun ls hl => ?_)
        obtain ⟨n_58, h⟩ := h
        refine lp_58 y1_16 mcd_16 _ (fun z2_58 z3_58 z4_58 H locs ls hP hD hS hl h => ?_) n_58 (7 : Int32) r38 (mF r52.toNatClampNeg) H locs ls hP hD hS (lv_sub hl [3, 4, 2, 1, 0] rfl) h
        refine lv_iload_n hx hb d_R_sum_124 rfl (lv_at hl 2 rfl) ?_
        exact W.iret (v := z2_58) hx hb hr9 (fun t ht hW => ⟨⟨_, (mcd_16), rfl, h, by rw [ht]; exact hP, va_K.moved hW.alike hK, hD⟩, hS.F ht⟩) hS.2.2 d_R_sum_125
      · have h := h.1 c_28
        exact lp_31 y1_16 mcd_16 H locs ls hP hD hS (lv_sub hl [0, 1] rfl) h
  unfold wqR_sum at h
  refine lv_aload_n hx hb d_R_sum_0 rfl (lv_at hl 0 rfl) ?_
  refine lv_iload_n hx hb d_R_sum_1 rfl (lv_at hl 1 rfl) ?_
  refine rq_calli (W.runS (As := [.int a1]) (rest := [.ref b0]) ⟨hx, hb, hml, hown, hw⟩ (mR_isRegister l a1 _ h) (va_cwS 1 hw g_R_52 rfl rfl rfl (by decide +kernel) ⟨Nat.le_of_ble_eq_true rfl, Nat.le_of_ble_eq_true rfl⟩) preEq rfl rfl hl.1 rfl (lv_room (Nat.le_of_ble_eq_true rfl)) d_R_sum_2 ⟨Nat.le_of_ble_eq_true rfl, Nat.le_of_ble_eq_true rfl⟩) (fun r2 h => ?_)
  refine lv_if_eq (tgt := 12) hx hb d_R_sum_5 (by decide) (fun c_5 => ?_) (fun c_5 => ?_)
  · have h := h.1 c_5
    refine lv_iconst (v := (1 : Int32)) hx hb d_R_sum_12 (by decide) ?_
    refine va_put (D := (dC, dI)) (ci := 2) (v := .int (1 : Int32)) (ty := .int) (C := R_R) (T := T_R) (N := 18) hx hb hw in_R ty_R ty_R_ok nm_R hown hK hP hD hS 0 rfl rfl 0 (by decide) (hw _ wd_616) (fun _ h9 => h9) rfl (by decide +kernel) rfl rfl (Nat.le_of_ble_eq_true rfl) d_R_sum_13 (fun H locs hP hD hS => ?_)
    have hP : va_P (dC, dI) vwCl (RSw cI cZ b0 bR bI bC bY bZ bF bL bN bX bT (1 : Int32) mwd men mR mI mC mY mZ mF mmd mhi mL mN mfr mX mT mct mtk) H := hP
    have hD : va_D A (RSw cI cZ b0 bR bI bC bY bZ bF bL bN bX bT (1 : Int32) mwd men mR mI mC mY mZ mF mmd mhi mL mN mfr mX mT mct mtk) := hD
    exact lp_16 a1 (1 : Int32) H locs ls hP hD hS (lv_sub hl [0, 1] rfl) h
  · have h := h.2 c_5
    refine lv_iconst (v := (0 : Int32)) hx hb d_R_sum_8 (by decide) ?_
    refine lv_goto (tgt := 13) hx hb d_R_sum_9 (by decide) ?_
    refine va_put (D := (dC, dI)) (ci := 2) (v := .int (0 : Int32)) (ty := .int) (C := R_R) (T := T_R) (N := 18) hx hb hw in_R ty_R ty_R_ok nm_R hown hK hP hD hS 0 rfl rfl 0 (by decide) (hw _ wd_616) (fun _ h9 => h9) rfl (by decide +kernel) rfl rfl (Nat.le_of_ble_eq_true rfl) d_R_sum_13 (fun H locs hP hD hS => ?_)
    have hP : va_P (dC, dI) vwCl (RSw cI cZ b0 bR bI bC bY bZ bF bL bN bX bT (0 : Int32) mwd men mR mI mC mY mZ mF mmd mhi mL mN mfr mX mT mct mtk) H := hP
    have hD : va_D A (RSw cI cZ b0 bR bI bC bY bZ bF bL bN bX bT (0 : Int32) mwd men mR mI mC mY mZ mF mmd mhi mL mN mfr mX mT mct mtk) := hD
    exact lp_16 a1 (0 : Int32) H locs ls hP hD hS (lv_sub hl [0, 1] rfl) h
def wqR_kind_32 (mR : Nat → Int32) (mY : Nat → Int32) (y1_32 : Int32) (mcd_32 : Int32) (post : Int32 → Int32 → Prop) : Prop :=
  post (0 : Int32) mcd_32
def wqR_kind_16 (mR : Nat → Int32) (mY : Nat → Int32) (y1_16 : Int32) (mcd_16 : Int32) (post : Int32 → Int32 → Prop) : Prop :=
  (0 < mcd_16 → (wqR_kind_32 mR mY y1_16 mcd_16 post)) ∧ (¬ (0 < mcd_16) → (vp_in y1_16 32 ∧ (((mR y1_16.toNatClampNeg) = 0 → (wqR_kind_32 mR mY y1_16 mcd_16 post)) ∧ (¬ ((mR y1_16.toNatClampNeg) = 0) → (vp_in y1_16 32 ∧ (wqR_isObject (mR y1_16.toNatClampNeg) (fun r42 => (r42 = 0 → (post (1 : Int32) mcd_16)) ∧ (¬ (r42 = 0) → (wqR_hasBytes mR mY y1_16 (fun r54 => (r54 = 0 → (post (2 : Int32) mcd_16)) ∧ (¬ (r54 = 0) → (post (3 : Int32) mcd_16))))))))))))
def wqR_kind (mcd : Int32) (mR : Nat → Int32) (mY : Nat → Int32) (a1 : Int32) (post : Int32 → Int32 → Prop) : Prop :=
  wqR_isRegister a1 (fun r2 => (r2 = 0 → (wqR_kind_16 mR mY a1 (1 : Int32) post)) ∧ (¬ (r2 = 0) → (wqR_kind_16 mR mY a1 (0 : Int32) post)))
set_option maxHeartbeats 4000000 in
set_option maxRecDepth 100000 in
theorem mR_kind (l : Launch) (dC : Nat → ClassId) (dI : Nat → Nat → Nat) (cI : ClassId) (cZ : ClassId) (b0 : Nat) (bR : Nat) (bI : Nat) (bC : Nat) (bY : Nat) (bZ : Nat) (bF : Nat) (bL : Nat) (bN : Nat) (bX : Nat) (bT : Nat) (sz : Nat) (mcd : Int32) (mwd : Int32) (men : Int32) (mR : Nat → Int32) (mI : Nat → Int32) (mC : Nat → Int32) (mY : Nat → Int32) (mZ : Nat → Int32) (mF : Nat → Int32) (mmd : Int32) (mhi : Int32) (mL : Nat → Int32) (mN : Nat → Int32) (mfr : Int32) (mX : Nat → Int32) (mT : Nat → Int32) (mct : Int32) (mtk : Int32) (a1 : Int32) (post : Int32 → Int32 → Prop) (h : wqR_kind mcd mR mY a1 post) : Met l y_R_kind ws_R_kind ({ frames := 3, cells := 0, slots := 0, locals := 62 }) (rw_P (dC, dI) vwCl (RSw cI cZ b0 bR bI bC bY bZ bF bL bN bX bT mcd mwd men mR mI mC mY mZ mF mmd mhi mL mN mfr mX mT mct mtk) [(cI, .int), (cZ, .boolean)] sz [.ref b0, .int a1]) (va_Qi (fun (r : Int32) (u : Int32) => post r u) (rw_B (dC, dI) vwCl [(cI, .int), (cZ, .boolean)] (va_A (RSw cI cZ b0 bR bI bC bY bZ bF bL bN bX bT mcd mwd men mR mI mC mY mZ mF mmd mhi mL mN mfr mX mT mct mtk) sz) (fun u : Int32 => RSw cI cZ b0 bR bI bC bY bZ bF bL bN bX bT u mwd men mR mI mC mY mZ mF mmd mhi mL mN mfr mX mT mct mtk)) (va_A (RSw cI cZ b0 bR bI bC bY bZ bF bL bN bX bT mcd mwd men mR mI mC mY mZ mF mmd mhi mL mN mfr mX mT mct mtk) sz)) 0 0 (va_A (RSw cI cZ b0 bR bI bC bY bZ bF bL bN bX bT mcd mwd men mR mI mC mY mZ mF mmd mhi mL mN mfr mX mT mct mtk) sz) := by
  refine Met.ofW (cc := c_R_kind) (maxL := 2) (ret := (some .int)) (by decide) rfl ?_
  intro p e s m args below meth c s₁ B hml hv
  obtain ⟨rfl, hsz, hP, hK, hD0⟩ := hv
  have hx := B.exec
  have hb := B.bytes
  have hr9 := B.returns
  have hts := atoms_spec (ws := ws_R_kind) B.pre
  have hw : ∀ w ∈ WB_, w.before _ s = true := fun w h => hts w (List.mem_cons_of_mem _ h)
  have hown : s.vm.findClass R_R = some m.cls := findClass_of_methodNamed B.named
  have hlocks := B.notSynchronized
  subst hsz
  have hD := hD0.self (sz := s.heap.size)
  generalize hAe : va_A (RSw cI cZ b0 bR bI bC bY bZ bF bL bN bX bT mcd mwd men mR mI mC mY mZ mF mmd mhi mL mN mfr mX mT mct mtk) s.heap.size = A at hD ⊢
  have hA : ∀ q : Nat, s.heap.size ≤ q → A q := fun q h => by rw [← hAe]; exact Or.inr h
  have hS : va_S A s.heap s.heap [] := va_S.rf
  have hl := lv_entry ([.ref b0, .int a1]) (n := 2) (Nat.le_of_ble_eq_true rfl)
  rw [lg_entry_eq]
  generalize (lg_sl ([.ref b0, .int a1]) ++ List.replicate (2 - (lg_sl ([.ref b0, .int a1])).length) Slot.unset).toArray = ls at hl ⊢
  have hl : lv_has ls 2 [(0, .ref b0), (1, .int a1)] := hl
  have lp_32 : ∀ (y1_32 : Int32) (mcd_32 : Int32) (H : Heap) (locs : List Loc) (ls : Array Slot), va_P (dC, dI) vwCl (RSw cI cZ b0 bR bI bC bY bZ bF bL bN bX bT mcd_32 mwd men mR mI mC mY mZ mF mmd mhi mL mN mfr mX mT mct mtk) H → va_D A (RSw cI cZ b0 bR bI bC bY bZ bF bL bN bX bT mcd_32 mwd men mR mI mC mY mZ mF mmd mhi mL mN mfr mX mT mct mtk) → va_S A s.heap H locs → lv_has ls 2 [(0, .ref b0), (1, .int y1_32)] → wqR_kind_32 mR mY y1_32 mcd_32 post → W p l e (headSpec ws_R_kind ({ frames := 3, cells := 0, slots := 0, locals := 62 })).room s m ([.ref b0, .int a1] : List Value).toArray below meth c H locs (0) (0) (MQ below (va_Qi (fun (r : Int32) (u : Int32) => post r u) (rw_B (dC, dI) vwCl [(cI, .int), (cZ, .boolean)] A (fun u : Int32 => RSw cI cZ b0 bR bI bC bY bZ bF bL bN bX bT u mwd men mR mI mC mY mZ mF mmd mhi mL mN mfr mX mT mct mtk)) A) ([.ref b0, .int a1] : List Value).toArray s 0 0 A) (F0 m 32 ls []) := by
    intro y1_32 mcd_32 H locs ls hP hD hS hl h
    unfold wqR_kind_32 at h
    refine lv_iconst (v := (0 : Int32)) hx hb d_R_kind_32 (by decide) ?_
    refine lv_goto (tgt := 65) hx hb d_R_kind_33 (by decide) ?_
    exact W.iret (v := (0 : Int32)) hx hb hr9 (fun t ht hW => ⟨⟨_, (mcd_32), rfl, h, by rw [ht]; exact hP, va_K.moved hW.alike hK, hD⟩, hS.F ht⟩) hS.2.2 d_R_kind_65
  have lp_16 : ∀ (y1_16 : Int32) (mcd_16 : Int32) (H : Heap) (locs : List Loc) (ls : Array Slot), va_P (dC, dI) vwCl (RSw cI cZ b0 bR bI bC bY bZ bF bL bN bX bT mcd_16 mwd men mR mI mC mY mZ mF mmd mhi mL mN mfr mX mT mct mtk) H → va_D A (RSw cI cZ b0 bR bI bC bY bZ bF bL bN bX bT mcd_16 mwd men mR mI mC mY mZ mF mmd mhi mL mN mfr mX mT mct mtk) → va_S A s.heap H locs → lv_has ls 2 [(0, .ref b0), (1, .int y1_16)] → wqR_kind_16 mR mY y1_16 mcd_16 post → W p l e (headSpec ws_R_kind ({ frames := 3, cells := 0, slots := 0, locals := 62 })).room s m ([.ref b0, .int a1] : List Value).toArray below meth c H locs (0) (0) (MQ below (va_Qi (fun (r : Int32) (u : Int32) => post r u) (rw_B (dC, dI) vwCl [(cI, .int), (cZ, .boolean)] A (fun u : Int32 => RSw cI cZ b0 bR bI bC bY bZ bF bL bN bX bT u mwd men mR mI mC mY mZ mF mmd mhi mL mN mfr mX mT mct mtk)) A) ([.ref b0, .int a1] : List Value).toArray s 0 0 A) (F0 m 16 ls []) := by
    intro y1_16 mcd_16 H locs ls hP hD hS hl h
    unfold wqR_kind_16 at h
    refine lv_aload_n hx hb d_R_kind_16 rfl (lv_at hl 0 rfl) ?_
    refine va_get (D := (dC, dI)) (ci := 2) (v := .int mcd_16) (C := R_R) (T := T_R) (N := 18) hx hb hw in_R hown hK hP 0 rfl rfl 0 (by decide) (hw _ wd_616) (fun _ h9 => h9) rfl d_R_kind_17 ?_
    refine lv_if_gt (tgt := 32) hx hb d_R_kind_20 (by decide) (fun c_20 => ?_) (fun c_20 => ?_)
    · have h := h.1 c_20
      exact lp_32 y1_16 mcd_16 H locs ls hP hD hS (lv_sub hl [0, 1] rfl) h
    · have h := h.2 c_20
      refine lv_aload_n hx hb d_R_kind_23 rfl (lv_at hl 0 rfl) ?_
      refine va_get (D := (dC, dI)) (ci := 2) (v := .ref bR) (C := R_R) (T := T_R) (N := 18) hx hb hw in_R hown hK hP 0 rfl rfl 3 (by decide) (hw _ wd_619) (fun _ h9 => h9) rfl d_R_kind_24 ?_
      refine lv_iload_n hx hb d_R_kind_27 rfl (lv_at hl 1 rfl) ?_
      refine va_iald hx hb hK hP 1 0 rfl rfl h.1 d_R_kind_28 ?_
      have h := h.2
      refine lv_if_ne (tgt := 36) hx hb d_R_kind_29 (by decide) (fun c_29 => ?_) (fun c_29 => ?_)
      · have h := h.2 c_29
        refine lv_aload_n hx hb d_R_kind_36 rfl (lv_at hl 0 rfl) ?_
        refine va_get (D := (dC, dI)) (ci := 2) (v := .ref bR) (C := R_R) (T := T_R) (N := 18) hx hb hw in_R hown hK hP 0 rfl rfl 3 (by decide) (hw _ wd_619) (fun _ h9 => h9) rfl d_R_kind_37 ?_
        refine lv_iload_n hx hb d_R_kind_40 rfl (lv_at hl 1 rfl) ?_
        refine va_iald hx hb hK hP 1 0 rfl rfl h.1 d_R_kind_41 ?_
        have h := h.2
        refine rq_calli (W.runS (As := [.int (mR y1_16.toNatClampNeg)]) (rest := []) ⟨hx, hb, hml, hown, hw⟩ (mR_isObject l (mR y1_16.toNatClampNeg) _ h) (va_cwS 1 hw g_R_56 rfl rfl rfl (by decide +kernel) ⟨Nat.le_of_ble_eq_true rfl, Nat.le_of_ble_eq_true rfl⟩) preEq rfl rfl hl.1 rfl (lv_room (Nat.le_of_ble_eq_true rfl)) d_R_kind_42 ⟨Nat.le_of_ble_eq_true rfl, Nat.le_of_ble_eq_true rfl⟩) (fun r42 h => ?_)
        refine lv_if_ne (tgt := 52) hx hb d_R_kind_45 (by decide) (fun c_45 => ?_) (fun c_45 => ?_)
        · have h := h.2 c_45
          refine lv_aload_n hx hb d_R_kind_52 rfl (lv_at hl 0 rfl) ?_
          refine lv_iload_n hx hb d_R_kind_53 rfl (lv_at hl 1 rfl) ?_
          refine rq_calli (W.runV (As := [.int y1_16]) (rest := []) ⟨hx, hb, hml, hown, hw⟩ (mR_hasBytes l dC dI cI cZ b0 bR bI bC bY bZ bF bL bN bX bT mcd_16 mwd men mR mI mC mY mZ mF mmd mhi mL mN mfr mX mT mct mtk y1_16 _ h) (cwV 1 hw g_R_117 rfl rfl rfl (by decide +kernel) ⟨Nat.le_of_ble_eq_true rfl, Nat.le_of_ble_eq_true rfl⟩) (ro_PV (ci := 2) (q0 := 0) hK hP rfl rfl) rfl rfl hl.1 rfl (lv_room (Nat.le_of_ble_eq_true rfl)) d_R_kind_54 ⟨Nat.le_of_ble_eq_true rfl, Nat.le_of_ble_eq_true rfl⟩) (fun r54 h => ?_)
          refine lv_if_eq (tgt := 64) hx hb d_R_kind_57 (by decide) (fun c_57 => ?_) (fun c_57 => ?_)
          · have h := h.1 c_57
            refine lv_iconst (v := (2 : Int32)) hx hb d_R_kind_64 (by decide) ?_
            exact W.iret (v := (2 : Int32)) hx hb hr9 (fun t ht hW => ⟨⟨_, (mcd_16), rfl, h, by rw [ht]; exact hP, va_K.moved hW.alike hK, hD⟩, hS.F ht⟩) hS.2.2 d_R_kind_65
          · have h := h.2 c_57
            refine lv_iconst (v := (3 : Int32)) hx hb d_R_kind_60 (by decide) ?_
            refine lv_goto (tgt := 65) hx hb d_R_kind_61 (by decide) ?_
            exact W.iret (v := (3 : Int32)) hx hb hr9 (fun t ht hW => ⟨⟨_, (mcd_16), rfl, h, by rw [ht]; exact hP, va_K.moved hW.alike hK, hD⟩, hS.F ht⟩) hS.2.2 d_R_kind_65
        · have h := h.1 c_45
          refine lv_iconst (v := (1 : Int32)) hx hb d_R_kind_48 (by decide) ?_
          refine lv_goto (tgt := 65) hx hb d_R_kind_49 (by decide) ?_
          exact W.iret (v := (1 : Int32)) hx hb hr9 (fun t ht hW => ⟨⟨_, (mcd_16), rfl, h, by rw [ht]; exact hP, va_K.moved hW.alike hK, hD⟩, hS.F ht⟩) hS.2.2 d_R_kind_65
      · have h := h.1 c_29
        exact lp_32 y1_16 mcd_16 H locs ls hP hD hS (lv_sub hl [0, 1] rfl) h
  unfold wqR_kind at h
  refine lv_aload_n hx hb d_R_kind_0 rfl (lv_at hl 0 rfl) ?_
  refine lv_iload_n hx hb d_R_kind_1 rfl (lv_at hl 1 rfl) ?_
  refine rq_calli (W.runS (As := [.int a1]) (rest := [.ref b0]) ⟨hx, hb, hml, hown, hw⟩ (mR_isRegister l a1 _ h) (va_cwS 1 hw g_R_52 rfl rfl rfl (by decide +kernel) ⟨Nat.le_of_ble_eq_true rfl, Nat.le_of_ble_eq_true rfl⟩) preEq rfl rfl hl.1 rfl (lv_room (Nat.le_of_ble_eq_true rfl)) d_R_kind_2 ⟨Nat.le_of_ble_eq_true rfl, Nat.le_of_ble_eq_true rfl⟩) (fun r2 h => ?_)
  refine lv_if_eq (tgt := 12) hx hb d_R_kind_5 (by decide) (fun c_5 => ?_) (fun c_5 => ?_)
  · have h := h.1 c_5
    refine lv_iconst (v := (1 : Int32)) hx hb d_R_kind_12 (by decide) ?_
    refine va_put (D := (dC, dI)) (ci := 2) (v := .int (1 : Int32)) (ty := .int) (C := R_R) (T := T_R) (N := 18) hx hb hw in_R ty_R ty_R_ok nm_R hown hK hP hD hS 0 rfl rfl 0 (by decide) (hw _ wd_616) (fun _ h9 => h9) rfl (by decide +kernel) rfl rfl (Nat.le_of_ble_eq_true rfl) d_R_kind_13 (fun H locs hP hD hS => ?_)
    have hP : va_P (dC, dI) vwCl (RSw cI cZ b0 bR bI bC bY bZ bF bL bN bX bT (1 : Int32) mwd men mR mI mC mY mZ mF mmd mhi mL mN mfr mX mT mct mtk) H := hP
    have hD : va_D A (RSw cI cZ b0 bR bI bC bY bZ bF bL bN bX bT (1 : Int32) mwd men mR mI mC mY mZ mF mmd mhi mL mN mfr mX mT mct mtk) := hD
    exact lp_16 a1 (1 : Int32) H locs ls hP hD hS (lv_sub hl [0, 1] rfl) h
  · have h := h.2 c_5
    refine lv_iconst (v := (0 : Int32)) hx hb d_R_kind_8 (by decide) ?_
    refine lv_goto (tgt := 13) hx hb d_R_kind_9 (by decide) ?_
    refine va_put (D := (dC, dI)) (ci := 2) (v := .int (0 : Int32)) (ty := .int) (C := R_R) (T := T_R) (N := 18) hx hb hw in_R ty_R ty_R_ok nm_R hown hK hP hD hS 0 rfl rfl 0 (by decide) (hw _ wd_616) (fun _ h9 => h9) rfl (by decide +kernel) rfl rfl (Nat.le_of_ble_eq_true rfl) d_R_kind_13 (fun H locs hP hD hS => ?_)
    have hP : va_P (dC, dI) vwCl (RSw cI cZ b0 bR bI bC bY bZ bF bL bN bX bT (0 : Int32) mwd men mR mI mC mY mZ mF mmd mhi mL mN mfr mX mT mct mtk) H := hP
    have hD : va_D A (RSw cI cZ b0 bR bI bC bY bZ bF bL bN bX bT (0 : Int32) mwd men mR mI mC mY mZ mF mmd mhi mL mN mfr mX mT mct mtk) := hD
    exact lp_16 a1 (0 : Int32) H locs ls hP hD hS (lv_sub hl [0, 1] rfl) h
def wqR_value_32 (mR : Nat → Int32) (mI : Nat → Int32) (y1_32 : Int32) (mcd_32 : Int32) (post : Int32 → Int32 → Prop) : Prop :=
  post (0 : Int32) mcd_32
def wqR_value_16 (mR : Nat → Int32) (mI : Nat → Int32) (y1_16 : Int32) (mcd_16 : Int32) (post : Int32 → Int32 → Prop) : Prop :=
  (0 < mcd_16 → (wqR_value_32 mR mI y1_16 mcd_16 post)) ∧ (¬ (0 < mcd_16) → (vp_in y1_16 32 ∧ (((mR y1_16.toNatClampNeg) = 0 → (wqR_value_32 mR mI y1_16 mcd_16 post)) ∧ (¬ ((mR y1_16.toNatClampNeg) = 0) → (vp_in y1_16 32 ∧ (wqR_isObject (mR y1_16.toNatClampNeg) (fun r40 => (r40 = 0 → (vp_in y1_16 32 ∧ (post ((mR y1_16.toNatClampNeg) >>> ((1 : Int32) &&& 31)) mcd_16))) ∧ (¬ (r40 = 0) → (vp_in y1_16 32 ∧ (wqR_placeOf (mR y1_16.toNatClampNeg) (fun r56 => vp_in r56 8192 ∧ (post (mI r56.toNatClampNeg) mcd_16))))))))))))
def wqR_value (mcd : Int32) (mR : Nat → Int32) (mI : Nat → Int32) (a1 : Int32) (post : Int32 → Int32 → Prop) : Prop :=
  wqR_isRegister a1 (fun r2 => (r2 = 0 → (wqR_value_16 mR mI a1 (1 : Int32) post)) ∧ (¬ (r2 = 0) → (wqR_value_16 mR mI a1 (0 : Int32) post)))
set_option maxHeartbeats 4000000 in
set_option maxRecDepth 100000 in
theorem mR_value (l : Launch) (dC : Nat → ClassId) (dI : Nat → Nat → Nat) (cI : ClassId) (cZ : ClassId) (b0 : Nat) (bR : Nat) (bI : Nat) (bC : Nat) (bY : Nat) (bZ : Nat) (bF : Nat) (bL : Nat) (bN : Nat) (bX : Nat) (bT : Nat) (sz : Nat) (mcd : Int32) (mwd : Int32) (men : Int32) (mR : Nat → Int32) (mI : Nat → Int32) (mC : Nat → Int32) (mY : Nat → Int32) (mZ : Nat → Int32) (mF : Nat → Int32) (mmd : Int32) (mhi : Int32) (mL : Nat → Int32) (mN : Nat → Int32) (mfr : Int32) (mX : Nat → Int32) (mT : Nat → Int32) (mct : Int32) (mtk : Int32) (a1 : Int32) (post : Int32 → Int32 → Prop) (h : wqR_value mcd mR mI a1 post) : Met l y_R_value ws_R_value ({ frames := 1, cells := 0, slots := 0, locals := 20 }) (rw_P (dC, dI) vwCl (RSw cI cZ b0 bR bI bC bY bZ bF bL bN bX bT mcd mwd men mR mI mC mY mZ mF mmd mhi mL mN mfr mX mT mct mtk) [(cI, .int), (cZ, .boolean)] sz [.ref b0, .int a1]) (va_Qi (fun (r : Int32) (u : Int32) => post r u) (rw_B (dC, dI) vwCl [(cI, .int), (cZ, .boolean)] (va_A (RSw cI cZ b0 bR bI bC bY bZ bF bL bN bX bT mcd mwd men mR mI mC mY mZ mF mmd mhi mL mN mfr mX mT mct mtk) sz) (fun u : Int32 => RSw cI cZ b0 bR bI bC bY bZ bF bL bN bX bT u mwd men mR mI mC mY mZ mF mmd mhi mL mN mfr mX mT mct mtk)) (va_A (RSw cI cZ b0 bR bI bC bY bZ bF bL bN bX bT mcd mwd men mR mI mC mY mZ mF mmd mhi mL mN mfr mX mT mct mtk) sz)) 0 0 (va_A (RSw cI cZ b0 bR bI bC bY bZ bF bL bN bX bT mcd mwd men mR mI mC mY mZ mF mmd mhi mL mN mfr mX mT mct mtk) sz) := by
  refine Met.ofW (cc := c_R_value) (maxL := 2) (ret := (some .int)) (by decide) rfl ?_
  intro p e s m args below meth c s₁ B hml hv
  obtain ⟨rfl, hsz, hP, hK, hD0⟩ := hv
  have hx := B.exec
  have hb := B.bytes
  have hr9 := B.returns
  have hts := atoms_spec (ws := ws_R_value) B.pre
  have hw : ∀ w ∈ WB_, w.before _ s = true := fun w h => hts w (List.mem_cons_of_mem _ h)
  have hown : s.vm.findClass R_R = some m.cls := findClass_of_methodNamed B.named
  have hlocks := B.notSynchronized
  subst hsz
  have hD := hD0.self (sz := s.heap.size)
  generalize hAe : va_A (RSw cI cZ b0 bR bI bC bY bZ bF bL bN bX bT mcd mwd men mR mI mC mY mZ mF mmd mhi mL mN mfr mX mT mct mtk) s.heap.size = A at hD ⊢
  have hA : ∀ q : Nat, s.heap.size ≤ q → A q := fun q h => by rw [← hAe]; exact Or.inr h
  have hS : va_S A s.heap s.heap [] := va_S.rf
  have hl := lv_entry ([.ref b0, .int a1]) (n := 2) (Nat.le_of_ble_eq_true rfl)
  rw [lg_entry_eq]
  generalize (lg_sl ([.ref b0, .int a1]) ++ List.replicate (2 - (lg_sl ([.ref b0, .int a1])).length) Slot.unset).toArray = ls at hl ⊢
  have hl : lv_has ls 2 [(0, .ref b0), (1, .int a1)] := hl
  have lp_32 : ∀ (y1_32 : Int32) (mcd_32 : Int32) (H : Heap) (locs : List Loc) (ls : Array Slot), va_P (dC, dI) vwCl (RSw cI cZ b0 bR bI bC bY bZ bF bL bN bX bT mcd_32 mwd men mR mI mC mY mZ mF mmd mhi mL mN mfr mX mT mct mtk) H → va_D A (RSw cI cZ b0 bR bI bC bY bZ bF bL bN bX bT mcd_32 mwd men mR mI mC mY mZ mF mmd mhi mL mN mfr mX mT mct mtk) → va_S A s.heap H locs → lv_has ls 2 [(0, .ref b0), (1, .int y1_32)] → wqR_value_32 mR mI y1_32 mcd_32 post → W p l e (headSpec ws_R_value ({ frames := 1, cells := 0, slots := 0, locals := 20 })).room s m ([.ref b0, .int a1] : List Value).toArray below meth c H locs (0) (0) (MQ below (va_Qi (fun (r : Int32) (u : Int32) => post r u) (rw_B (dC, dI) vwCl [(cI, .int), (cZ, .boolean)] A (fun u : Int32 => RSw cI cZ b0 bR bI bC bY bZ bF bL bN bX bT u mwd men mR mI mC mY mZ mF mmd mhi mL mN mfr mX mT mct mtk)) A) ([.ref b0, .int a1] : List Value).toArray s 0 0 A) (F0 m 32 ls []) := by
    intro y1_32 mcd_32 H locs ls hP hD hS hl h
    unfold wqR_value_32 at h
    refine lv_iconst (v := (0 : Int32)) hx hb d_R_value_32 (by decide) ?_
    exact W.iret (v := (0 : Int32)) hx hb hr9 (fun t ht hW => ⟨⟨_, (mcd_32), rfl, h, by rw [ht]; exact hP, va_K.moved hW.alike hK, hD⟩, hS.F ht⟩) hS.2.2 d_R_value_33
  have lp_16 : ∀ (y1_16 : Int32) (mcd_16 : Int32) (H : Heap) (locs : List Loc) (ls : Array Slot), va_P (dC, dI) vwCl (RSw cI cZ b0 bR bI bC bY bZ bF bL bN bX bT mcd_16 mwd men mR mI mC mY mZ mF mmd mhi mL mN mfr mX mT mct mtk) H → va_D A (RSw cI cZ b0 bR bI bC bY bZ bF bL bN bX bT mcd_16 mwd men mR mI mC mY mZ mF mmd mhi mL mN mfr mX mT mct mtk) → va_S A s.heap H locs → lv_has ls 2 [(0, .ref b0), (1, .int y1_16)] → wqR_value_16 mR mI y1_16 mcd_16 post → W p l e (headSpec ws_R_value ({ frames := 1, cells := 0, slots := 0, locals := 20 })).room s m ([.ref b0, .int a1] : List Value).toArray below meth c H locs (0) (0) (MQ below (va_Qi (fun (r : Int32) (u : Int32) => post r u) (rw_B (dC, dI) vwCl [(cI, .int), (cZ, .boolean)] A (fun u : Int32 => RSw cI cZ b0 bR bI bC bY bZ bF bL bN bX bT u mwd men mR mI mC mY mZ mF mmd mhi mL mN mfr mX mT mct mtk)) A) ([.ref b0, .int a1] : List Value).toArray s 0 0 A) (F0 m 16 ls []) := by
    intro y1_16 mcd_16 H locs ls hP hD hS hl h
    unfold wqR_value_16 at h
    refine lv_aload_n hx hb d_R_value_16 rfl (lv_at hl 0 rfl) ?_
    refine va_get (D := (dC, dI)) (ci := 2) (v := .int mcd_16) (C := R_R) (T := T_R) (N := 18) hx hb hw in_R hown hK hP 0 rfl rfl 0 (by decide) (hw _ wd_616) (fun _ h9 => h9) rfl d_R_value_17 ?_
    refine lv_if_gt (tgt := 32) hx hb d_R_value_20 (by decide) (fun c_20 => ?_) (fun c_20 => ?_)
    · have h := h.1 c_20
      exact lp_32 y1_16 mcd_16 H locs ls hP hD hS (lv_sub hl [0, 1] rfl) h
    · have h := h.2 c_20
      refine lv_aload_n hx hb d_R_value_23 rfl (lv_at hl 0 rfl) ?_
      refine va_get (D := (dC, dI)) (ci := 2) (v := .ref bR) (C := R_R) (T := T_R) (N := 18) hx hb hw in_R hown hK hP 0 rfl rfl 3 (by decide) (hw _ wd_619) (fun _ h9 => h9) rfl d_R_value_24 ?_
      refine lv_iload_n hx hb d_R_value_27 rfl (lv_at hl 1 rfl) ?_
      refine va_iald hx hb hK hP 1 0 rfl rfl h.1 d_R_value_28 ?_
      have h := h.2
      refine lv_if_ne (tgt := 34) hx hb d_R_value_29 (by decide) (fun c_29 => ?_) (fun c_29 => ?_)
      · have h := h.2 c_29
        refine lv_aload_n hx hb d_R_value_34 rfl (lv_at hl 0 rfl) ?_
        refine va_get (D := (dC, dI)) (ci := 2) (v := .ref bR) (C := R_R) (T := T_R) (N := 18) hx hb hw in_R hown hK hP 0 rfl rfl 3 (by decide) (hw _ wd_619) (fun _ h9 => h9) rfl d_R_value_35 ?_
        refine lv_iload_n hx hb d_R_value_38 rfl (lv_at hl 1 rfl) ?_
        refine va_iald hx hb hK hP 1 0 rfl rfl h.1 d_R_value_39 ?_
        have h := h.2
        refine rq_calli (W.runS (As := [.int (mR y1_16.toNatClampNeg)]) (rest := []) ⟨hx, hb, hml, hown, hw⟩ (mR_isObject l (mR y1_16.toNatClampNeg) _ h) (va_cwS 1 hw g_R_56 rfl rfl rfl (by decide +kernel) ⟨Nat.le_of_ble_eq_true rfl, Nat.le_of_ble_eq_true rfl⟩) preEq rfl rfl hl.1 rfl (lv_room (Nat.le_of_ble_eq_true rfl)) d_R_value_40 ⟨Nat.le_of_ble_eq_true rfl, Nat.le_of_ble_eq_true rfl⟩) (fun r40 h => ?_)
        refine lv_if_eq (tgt := 63) hx hb d_R_value_43 (by decide) (fun c_43 => ?_) (fun c_43 => ?_)
        · have h := h.1 c_43
          refine lv_aload_n hx hb d_R_value_63 rfl (lv_at hl 0 rfl) ?_
          refine va_get (D := (dC, dI)) (ci := 2) (v := .ref bR) (C := R_R) (T := T_R) (N := 18) hx hb hw in_R hown hK hP 0 rfl rfl 3 (by decide) (hw _ wd_619) (fun _ h9 => h9) rfl d_R_value_64 ?_
          refine lv_iload_n hx hb d_R_value_67 rfl (lv_at hl 1 rfl) ?_
          refine va_iald hx hb hK hP 1 0 rfl rfl h.1 d_R_value_68 ?_
          have h := h.2
          refine lv_iconst (v := (1 : Int32)) hx hb d_R_value_69 (by decide) ?_
          refine lv_ishr hx hb d_R_value_70 ?_
          exact W.iret (v := (mR y1_16.toNatClampNeg) >>> ((1 : Int32) &&& 31)) hx hb hr9 (fun t ht hW => ⟨⟨_, (mcd_16), rfl, h, by rw [ht]; exact hP, va_K.moved hW.alike hK, hD⟩, hS.F ht⟩) hS.2.2 d_R_value_71
        · have h := h.2 c_43
          refine lv_aload_n hx hb d_R_value_46 rfl (lv_at hl 0 rfl) ?_
          refine va_get (D := (dC, dI)) (ci := 2) (v := .ref bI) (C := R_R) (T := T_R) (N := 18) hx hb hw in_R hown hK hP 0 rfl rfl 4 (by decide) (hw _ wd_620) (fun _ h9 => h9) rfl d_R_value_47 ?_
          refine lv_aload_n hx hb d_R_value_50 rfl (lv_at hl 0 rfl) ?_
          refine va_get (D := (dC, dI)) (ci := 2) (v := .ref bR) (C := R_R) (T := T_R) (N := 18) hx hb hw in_R hown hK hP 0 rfl rfl 3 (by decide) (hw _ wd_619) (fun _ h9 => h9) rfl d_R_value_51 ?_
          refine lv_iload_n hx hb d_R_value_54 rfl (lv_at hl 1 rfl) ?_
          refine va_iald hx hb hK hP 1 0 rfl rfl h.1 d_R_value_55 ?_
          have h := h.2
          refine rq_calli (W.runS (As := [.int (mR y1_16.toNatClampNeg)]) (rest := [.ref bI]) ⟨hx, hb, hml, hown, hw⟩ (mR_placeOf l (mR y1_16.toNatClampNeg) _ h) (va_cwS 1 hw g_R_62 rfl rfl rfl (by decide +kernel) ⟨Nat.le_of_ble_eq_true rfl, Nat.le_of_ble_eq_true rfl⟩) preEq rfl rfl hl.1 rfl (lv_room (Nat.le_of_ble_eq_true rfl)) d_R_value_56 ⟨Nat.le_of_ble_eq_true rfl, Nat.le_of_ble_eq_true rfl⟩) (fun r56 h => ?_)
          refine va_iald hx hb hK hP 2 0 rfl rfl h.1 d_R_value_59 ?_
          have h := h.2
          refine lv_goto (tgt := 71) hx hb d_R_value_60 (by decide) ?_
          exact W.iret (v := mI r56.toNatClampNeg) hx hb hr9 (fun t ht hW => ⟨⟨_, (mcd_16), rfl, h, by rw [ht]; exact hP, va_K.moved hW.alike hK, hD⟩, hS.F ht⟩) hS.2.2 d_R_value_71
      · have h := h.1 c_29
        exact lp_32 y1_16 mcd_16 H locs ls hP hD hS (lv_sub hl [0, 1] rfl) h
  unfold wqR_value at h
  refine lv_aload_n hx hb d_R_value_0 rfl (lv_at hl 0 rfl) ?_
  refine lv_iload_n hx hb d_R_value_1 rfl (lv_at hl 1 rfl) ?_
  refine rq_calli (W.runS (As := [.int a1]) (rest := [.ref b0]) ⟨hx, hb, hml, hown, hw⟩ (mR_isRegister l a1 _ h) (va_cwS 1 hw g_R_52 rfl rfl rfl (by decide +kernel) ⟨Nat.le_of_ble_eq_true rfl, Nat.le_of_ble_eq_true rfl⟩) preEq rfl rfl hl.1 rfl (lv_room (Nat.le_of_ble_eq_true rfl)) d_R_value_2 ⟨Nat.le_of_ble_eq_true rfl, Nat.le_of_ble_eq_true rfl⟩) (fun r2 h => ?_)
  refine lv_if_eq (tgt := 12) hx hb d_R_value_5 (by decide) (fun c_5 => ?_) (fun c_5 => ?_)
  · have h := h.1 c_5
    refine lv_iconst (v := (1 : Int32)) hx hb d_R_value_12 (by decide) ?_
    refine va_put (D := (dC, dI)) (ci := 2) (v := .int (1 : Int32)) (ty := .int) (C := R_R) (T := T_R) (N := 18) hx hb hw in_R ty_R ty_R_ok nm_R hown hK hP hD hS 0 rfl rfl 0 (by decide) (hw _ wd_616) (fun _ h9 => h9) rfl (by decide +kernel) rfl rfl (Nat.le_of_ble_eq_true rfl) d_R_value_13 (fun H locs hP hD hS => ?_)
    have hP : va_P (dC, dI) vwCl (RSw cI cZ b0 bR bI bC bY bZ bF bL bN bX bT (1 : Int32) mwd men mR mI mC mY mZ mF mmd mhi mL mN mfr mX mT mct mtk) H := hP
    have hD : va_D A (RSw cI cZ b0 bR bI bC bY bZ bF bL bN bX bT (1 : Int32) mwd men mR mI mC mY mZ mF mmd mhi mL mN mfr mX mT mct mtk) := hD
    exact lp_16 a1 (1 : Int32) H locs ls hP hD hS (lv_sub hl [0, 1] rfl) h
  · have h := h.2 c_5
    refine lv_iconst (v := (0 : Int32)) hx hb d_R_value_8 (by decide) ?_
    refine lv_goto (tgt := 13) hx hb d_R_value_9 (by decide) ?_
    refine va_put (D := (dC, dI)) (ci := 2) (v := .int (0 : Int32)) (ty := .int) (C := R_R) (T := T_R) (N := 18) hx hb hw in_R ty_R ty_R_ok nm_R hown hK hP hD hS 0 rfl rfl 0 (by decide) (hw _ wd_616) (fun _ h9 => h9) rfl (by decide +kernel) rfl rfl (Nat.le_of_ble_eq_true rfl) d_R_value_13 (fun H locs hP hD hS => ?_)
    have hP : va_P (dC, dI) vwCl (RSw cI cZ b0 bR bI bC bY bZ bF bL bN bX bT (0 : Int32) mwd men mR mI mC mY mZ mF mmd mhi mL mN mfr mX mT mct mtk) H := hP
    have hD : va_D A (RSw cI cZ b0 bR bI bC bY bZ bF bL bN bX bT (0 : Int32) mwd men mR mI mC mY mZ mF mmd mhi mL mN mfr mX mT mct mtk) := hD
    exact lp_16 a1 (0 : Int32) H locs ls hP hD hS (lv_sub hl [0, 1] rfl) h
def wqR_size_16 (mR : Nat → Int32) (mZ : Nat → Int32) (y1_16 : Int32) (mcd_16 : Int32) (post : Int32 → Int32 → Prop) : Prop :=
  wqR_has mR y1_16 (fun r18 => (r18 = 0 → (post (0 : Int32) mcd_16)) ∧ (¬ (r18 = 0) → (wqR_sizeOf mR mZ y1_16 (fun r26 => post r26 mcd_16))))
def wqR_size (mcd : Int32) (mR : Nat → Int32) (mZ : Nat → Int32) (a1 : Int32) (post : Int32 → Int32 → Prop) : Prop :=
  wqR_isRegister a1 (fun r2 => (r2 = 0 → (wqR_size_16 mR mZ a1 (1 : Int32) post)) ∧ (¬ (r2 = 0) → (wqR_size_16 mR mZ a1 (0 : Int32) post)))
set_option maxHeartbeats 4000000 in
set_option maxRecDepth 100000 in
theorem mR_size (l : Launch) (dC : Nat → ClassId) (dI : Nat → Nat → Nat) (cI : ClassId) (cZ : ClassId) (b0 : Nat) (bR : Nat) (bI : Nat) (bC : Nat) (bY : Nat) (bZ : Nat) (bF : Nat) (bL : Nat) (bN : Nat) (bX : Nat) (bT : Nat) (sz : Nat) (mcd : Int32) (mwd : Int32) (men : Int32) (mR : Nat → Int32) (mI : Nat → Int32) (mC : Nat → Int32) (mY : Nat → Int32) (mZ : Nat → Int32) (mF : Nat → Int32) (mmd : Int32) (mhi : Int32) (mL : Nat → Int32) (mN : Nat → Int32) (mfr : Int32) (mX : Nat → Int32) (mT : Nat → Int32) (mct : Int32) (mtk : Int32) (a1 : Int32) (post : Int32 → Int32 → Prop) (h : wqR_size mcd mR mZ a1 post) : Met l y_R_size ws_R_size ({ frames := 2, cells := 0, slots := 0, locals := 41 }) (rw_P (dC, dI) vwCl (RSw cI cZ b0 bR bI bC bY bZ bF bL bN bX bT mcd mwd men mR mI mC mY mZ mF mmd mhi mL mN mfr mX mT mct mtk) [(cI, .int), (cZ, .boolean)] sz [.ref b0, .int a1]) (va_Qi (fun (r : Int32) (u : Int32) => post r u) (rw_B (dC, dI) vwCl [(cI, .int), (cZ, .boolean)] (va_A (RSw cI cZ b0 bR bI bC bY bZ bF bL bN bX bT mcd mwd men mR mI mC mY mZ mF mmd mhi mL mN mfr mX mT mct mtk) sz) (fun u : Int32 => RSw cI cZ b0 bR bI bC bY bZ bF bL bN bX bT u mwd men mR mI mC mY mZ mF mmd mhi mL mN mfr mX mT mct mtk)) (va_A (RSw cI cZ b0 bR bI bC bY bZ bF bL bN bX bT mcd mwd men mR mI mC mY mZ mF mmd mhi mL mN mfr mX mT mct mtk) sz)) 0 0 (va_A (RSw cI cZ b0 bR bI bC bY bZ bF bL bN bX bT mcd mwd men mR mI mC mY mZ mF mmd mhi mL mN mfr mX mT mct mtk) sz) := by
  refine Met.ofW (cc := c_R_size) (maxL := 2) (ret := (some .int)) (by decide) rfl ?_
  intro p e s m args below meth c s₁ B hml hv
  obtain ⟨rfl, hsz, hP, hK, hD0⟩ := hv
  have hx := B.exec
  have hb := B.bytes
  have hr9 := B.returns
  have hts := atoms_spec (ws := ws_R_size) B.pre
  have hw : ∀ w ∈ WB_, w.before _ s = true := fun w h => hts w (List.mem_cons_of_mem _ h)
  have hown : s.vm.findClass R_R = some m.cls := findClass_of_methodNamed B.named
  have hlocks := B.notSynchronized
  subst hsz
  have hD := hD0.self (sz := s.heap.size)
  generalize hAe : va_A (RSw cI cZ b0 bR bI bC bY bZ bF bL bN bX bT mcd mwd men mR mI mC mY mZ mF mmd mhi mL mN mfr mX mT mct mtk) s.heap.size = A at hD ⊢
  have hA : ∀ q : Nat, s.heap.size ≤ q → A q := fun q h => by rw [← hAe]; exact Or.inr h
  have hS : va_S A s.heap s.heap [] := va_S.rf
  have hl := lv_entry ([.ref b0, .int a1]) (n := 2) (Nat.le_of_ble_eq_true rfl)
  rw [lg_entry_eq]
  generalize (lg_sl ([.ref b0, .int a1]) ++ List.replicate (2 - (lg_sl ([.ref b0, .int a1])).length) Slot.unset).toArray = ls at hl ⊢
  have hl : lv_has ls 2 [(0, .ref b0), (1, .int a1)] := hl
  have lp_16 : ∀ (y1_16 : Int32) (mcd_16 : Int32) (H : Heap) (locs : List Loc) (ls : Array Slot), va_P (dC, dI) vwCl (RSw cI cZ b0 bR bI bC bY bZ bF bL bN bX bT mcd_16 mwd men mR mI mC mY mZ mF mmd mhi mL mN mfr mX mT mct mtk) H → va_D A (RSw cI cZ b0 bR bI bC bY bZ bF bL bN bX bT mcd_16 mwd men mR mI mC mY mZ mF mmd mhi mL mN mfr mX mT mct mtk) → va_S A s.heap H locs → lv_has ls 2 [(0, .ref b0), (1, .int y1_16)] → wqR_size_16 mR mZ y1_16 mcd_16 post → W p l e (headSpec ws_R_size ({ frames := 2, cells := 0, slots := 0, locals := 41 })).room s m ([.ref b0, .int a1] : List Value).toArray below meth c H locs (0) (0) (MQ below (va_Qi (fun (r : Int32) (u : Int32) => post r u) (rw_B (dC, dI) vwCl [(cI, .int), (cZ, .boolean)] A (fun u : Int32 => RSw cI cZ b0 bR bI bC bY bZ bF bL bN bX bT u mwd men mR mI mC mY mZ mF mmd mhi mL mN mfr mX mT mct mtk)) A) ([.ref b0, .int a1] : List Value).toArray s 0 0 A) (F0 m 16 ls []) := by
    intro y1_16 mcd_16 H locs ls hP hD hS hl h
    unfold wqR_size_16 at h
    refine lv_aload_n hx hb d_R_size_16 rfl (lv_at hl 0 rfl) ?_
    refine lv_iload_n hx hb d_R_size_17 rfl (lv_at hl 1 rfl) ?_
    refine rq_calli (W.runV (As := [.int y1_16]) (rest := []) ⟨hx, hb, hml, hown, hw⟩ (mR_has l dC dI cI cZ b0 bR bI bC bY bZ bF bL bN bX bT mcd_16 mwd men mR mI mC mY mZ mF mmd mhi mL mN mfr mX mT mct mtk y1_16 _ h) (cwV 1 hw g_R_59 rfl rfl rfl (by decide +kernel) ⟨Nat.le_of_ble_eq_true rfl, Nat.le_of_ble_eq_true rfl⟩) (ro_PV (ci := 2) (q0 := 0) hK hP rfl rfl) rfl rfl hl.1 rfl (lv_room (Nat.le_of_ble_eq_true rfl)) d_R_size_18 ⟨Nat.le_of_ble_eq_true rfl, Nat.le_of_ble_eq_true rfl⟩) (fun r18 h => ?_)
    refine lv_if_eq (tgt := 32) hx hb d_R_size_21 (by decide) (fun c_21 => ?_) (fun c_21 => ?_)
    · have h := h.1 c_21
      refine lv_iconst (v := (0 : Int32)) hx hb d_R_size_32 (by decide) ?_
      exact W.iret (v := (0 : Int32)) hx hb hr9 (fun t ht hW => ⟨⟨_, (mcd_16), rfl, h, by rw [ht]; exact hP, va_K.moved hW.alike hK, hD⟩, hS.F ht⟩) hS.2.2 d_R_size_33
    · have h := h.2 c_21
      refine lv_aload_n hx hb d_R_size_24 rfl (lv_at hl 0 rfl) ?_
      refine lv_iload_n hx hb d_R_size_25 rfl (lv_at hl 1 rfl) ?_
      refine rq_calli (W.runV (As := [.int y1_16]) (rest := []) ⟨hx, hb, hml, hown, hw⟩ (mR_sizeOf l dC dI cI cZ b0 bR bI bC bY bZ bF bL bN bX bT mcd_16 mwd men mR mI mC mY mZ mF mmd mhi mL mN mfr mX mT mct mtk y1_16 _ h) (cwV 1 hw g_R_114 rfl rfl rfl (by decide +kernel) ⟨Nat.le_of_ble_eq_true rfl, Nat.le_of_ble_eq_true rfl⟩) (ro_PV (ci := 2) (q0 := 0) hK hP rfl rfl) rfl rfl hl.1 rfl (lv_room (Nat.le_of_ble_eq_true rfl)) d_R_size_26 ⟨Nat.le_of_ble_eq_true rfl, Nat.le_of_ble_eq_true rfl⟩) (fun r26 h => ?_)
      refine lv_goto (tgt := 33) hx hb d_R_size_29 (by decide) ?_
      exact W.iret (v := r26) hx hb hr9 (fun t ht hW => ⟨⟨_, (mcd_16), rfl, h, by rw [ht]; exact hP, va_K.moved hW.alike hK, hD⟩, hS.F ht⟩) hS.2.2 d_R_size_33
  unfold wqR_size at h
  refine lv_aload_n hx hb d_R_size_0 rfl (lv_at hl 0 rfl) ?_
  refine lv_iload_n hx hb d_R_size_1 rfl (lv_at hl 1 rfl) ?_
  refine rq_calli (W.runS (As := [.int a1]) (rest := [.ref b0]) ⟨hx, hb, hml, hown, hw⟩ (mR_isRegister l a1 _ h) (va_cwS 1 hw g_R_52 rfl rfl rfl (by decide +kernel) ⟨Nat.le_of_ble_eq_true rfl, Nat.le_of_ble_eq_true rfl⟩) preEq rfl rfl hl.1 rfl (lv_room (Nat.le_of_ble_eq_true rfl)) d_R_size_2 ⟨Nat.le_of_ble_eq_true rfl, Nat.le_of_ble_eq_true rfl⟩) (fun r2 h => ?_)
  refine lv_if_eq (tgt := 12) hx hb d_R_size_5 (by decide) (fun c_5 => ?_) (fun c_5 => ?_)
  · have h := h.1 c_5
    refine lv_iconst (v := (1 : Int32)) hx hb d_R_size_12 (by decide) ?_
    refine va_put (D := (dC, dI)) (ci := 2) (v := .int (1 : Int32)) (ty := .int) (C := R_R) (T := T_R) (N := 18) hx hb hw in_R ty_R ty_R_ok nm_R hown hK hP hD hS 0 rfl rfl 0 (by decide) (hw _ wd_616) (fun _ h9 => h9) rfl (by decide +kernel) rfl rfl (Nat.le_of_ble_eq_true rfl) d_R_size_13 (fun H locs hP hD hS => ?_)
    have hP : va_P (dC, dI) vwCl (RSw cI cZ b0 bR bI bC bY bZ bF bL bN bX bT (1 : Int32) mwd men mR mI mC mY mZ mF mmd mhi mL mN mfr mX mT mct mtk) H := hP
    have hD : va_D A (RSw cI cZ b0 bR bI bC bY bZ bF bL bN bX bT (1 : Int32) mwd men mR mI mC mY mZ mF mmd mhi mL mN mfr mX mT mct mtk) := hD
    exact lp_16 a1 (1 : Int32) H locs ls hP hD hS (lv_sub hl [0, 1] rfl) h
  · have h := h.2 c_5
    refine lv_iconst (v := (0 : Int32)) hx hb d_R_size_8 (by decide) ?_
    refine lv_goto (tgt := 13) hx hb d_R_size_9 (by decide) ?_
    refine va_put (D := (dC, dI)) (ci := 2) (v := .int (0 : Int32)) (ty := .int) (C := R_R) (T := T_R) (N := 18) hx hb hw in_R ty_R ty_R_ok nm_R hown hK hP hD hS 0 rfl rfl 0 (by decide) (hw _ wd_616) (fun _ h9 => h9) rfl (by decide +kernel) rfl rfl (Nat.le_of_ble_eq_true rfl) d_R_size_13 (fun H locs hP hD hS => ?_)
    have hP : va_P (dC, dI) vwCl (RSw cI cZ b0 bR bI bC bY bZ bF bL bN bX bT (0 : Int32) mwd men mR mI mC mY mZ mF mmd mhi mL mN mfr mX mT mct mtk) H := hP
    have hD : va_D A (RSw cI cZ b0 bR bI bC bY bZ bF bL bN bX bT (0 : Int32) mwd men mR mI mC mY mZ mF mmd mhi mL mN mfr mX mT mct mtk) := hD
    exact lp_16 a1 (0 : Int32) H locs ls hP hD hS (lv_sub hl [0, 1] rfl) h
def wqR_become_25 (mR : Nat → Int32) (y1_25 : Int32) (y2_25 : Int32) (mcd_25 : Int32) (mI_25 : Nat → Int32) (mC_25 : Nat → Int32) (mY_25 : Nat → Int32) (mZ_25 : Nat → Int32) (mF_25 : Nat → Int32) (post : Int32 → (Nat → Int32) → (Nat → Int32) → (Nat → Int32) → (Nat → Int32) → (Nat → Int32) → Prop) : Prop :=
  (mcd_25 ≤ 0 → (vp_in y1_25 32 ∧ (wqR_placeOf (mR y1_25.toNatClampNeg) (fun r39 => vp_in y2_25 32 ∧ (wqR_placeOf (mR y2_25.toNatClampNeg) (fun r49 => vp_in r39 8192 ∧ (vp_in r39 8192 ∧ (vp_in r39 8192 ∧ (vp_in r39 8192 ∧ (vp_in r39 8192 ∧ (vp_in r49 8192 ∧ (vp_in r39 8192 ∧ (vp_in r49 8192 ∧ (vp_in r39 8192 ∧ (vp_in r49 8192 ∧ (vp_in r39 8192 ∧ (vp_in r49 8192 ∧ (vp_in r39 8192 ∧ (vp_in r49 8192 ∧ (vp_in r39 8192 ∧ (vp_in r49 8192 ∧ (vp_in r49 8192 ∧ (vp_in r49 8192 ∧ (vp_in r49 8192 ∧ (vp_in r49 8192 ∧ (post mcd_25 (upd (upd mI_25 r39.toNatClampNeg (mI_25 r49.toNatClampNeg)) r49.toNatClampNeg (mI_25 r39.toNatClampNeg)) (upd (upd mC_25 r39.toNatClampNeg (mC_25 r49.toNatClampNeg)) r49.toNatClampNeg (mC_25 r39.toNatClampNeg)) (upd (upd mY_25 r39.toNatClampNeg (vp_nar .boolean (mY_25 r49.toNatClampNeg))) r49.toNatClampNeg (vp_nar .boolean (mY_25 r39.toNatClampNeg))) (upd (upd mZ_25 r39.toNatClampNeg (mZ_25 r49.toNatClampNeg)) r49.toNatClampNeg (mZ_25 r39.toNatClampNeg)) (upd (upd mF_25 r39.toNatClampNeg (mF_25 r49.toNatClampNeg)) r49.toNatClampNeg (mF_25 r39.toNatClampNeg)))))))))))))))))))))))))))) ∧ (¬ (mcd_25 ≤ 0) → (post mcd_25 mI_25 mC_25 mY_25 mZ_25 mF_25))
def wqR_become (mcd : Int32) (mR : Nat → Int32) (mI : Nat → Int32) (mC : Nat → Int32) (mY : Nat → Int32) (mZ : Nat → Int32) (mF : Nat → Int32) (a1 : Int32) (a2 : Int32) (post : Int32 → (Nat → Int32) → (Nat → Int32) → (Nat → Int32) → (Nat → Int32) → (Nat → Int32) → Prop) : Prop :=
  wqR_has mR a1 (fun r3 => (r3 = 0 → (wqR_become_25 mR a1 a2 (1 : Int32) mI mC mY mZ mF post)) ∧ (¬ (r3 = 0) → (wqR_has mR a2 (fun r11 => (r11 = 0 → (wqR_become_25 mR a1 a2 (1 : Int32) mI mC mY mZ mF post)) ∧ (¬ (r11 = 0) → (wqR_become_25 mR a1 a2 (0 : Int32) mI mC mY mZ mF post))))))
set_option maxHeartbeats 4000000 in
set_option maxRecDepth 100000 in
theorem mR_become (l : Launch) (dC : Nat → ClassId) (dI : Nat → Nat → Nat) (cI : ClassId) (cZ : ClassId) (b0 : Nat) (bR : Nat) (bI : Nat) (bC : Nat) (bY : Nat) (bZ : Nat) (bF : Nat) (bL : Nat) (bN : Nat) (bX : Nat) (bT : Nat) (sz : Nat) (mcd : Int32) (mwd : Int32) (men : Int32) (mR : Nat → Int32) (mI : Nat → Int32) (mC : Nat → Int32) (mY : Nat → Int32) (mZ : Nat → Int32) (mF : Nat → Int32) (mmd : Int32) (mhi : Int32) (mL : Nat → Int32) (mN : Nat → Int32) (mfr : Int32) (mX : Nat → Int32) (mT : Nat → Int32) (mct : Int32) (mtk : Int32) (a1 : Int32) (a2 : Int32) (post : Int32 → (Nat → Int32) → (Nat → Int32) → (Nat → Int32) → (Nat → Int32) → (Nat → Int32) → Prop) (h : wqR_become mcd mR mI mC mY mZ mF a1 a2 post) : Met l y_R_become ws_R_become ({ frames := 2, cells := 0, slots := 0, locals := 41 }) (rw_P (dC, dI) vwCl (RSw cI cZ b0 bR bI bC bY bZ bF bL bN bX bT mcd mwd men mR mI mC mY mZ mF mmd mhi mL mN mfr mX mT mct mtk) [(cI, .int), (cZ, .boolean)] sz [.ref b0, .int a1, .int a2]) (va_Qv (fun u : Int32 × (Nat → Int32) × (Nat → Int32) × (Nat → Int32) × (Nat → Int32) × (Nat → Int32) => post u.1 u.2.1 u.2.2.1 u.2.2.2.1 u.2.2.2.2.1 u.2.2.2.2.2) (rw_B (dC, dI) vwCl [(cI, .int), (cZ, .boolean)] (va_A (RSw cI cZ b0 bR bI bC bY bZ bF bL bN bX bT mcd mwd men mR mI mC mY mZ mF mmd mhi mL mN mfr mX mT mct mtk) sz) (fun u : Int32 × (Nat → Int32) × (Nat → Int32) × (Nat → Int32) × (Nat → Int32) × (Nat → Int32) => RSw cI cZ b0 bR bI bC bY bZ bF bL bN bX bT u.1 mwd men mR u.2.1 u.2.2.1 u.2.2.2.1 u.2.2.2.2.1 u.2.2.2.2.2 mmd mhi mL mN mfr mX mT mct mtk)) (va_A (RSw cI cZ b0 bR bI bC bY bZ bF bL bN bX bT mcd mwd men mR mI mC mY mZ mF mmd mhi mL mN mfr mX mT mct mtk) sz)) 0 0 (va_A (RSw cI cZ b0 bR bI bC bY bZ bF bL bN bX bT mcd mwd men mR mI mC mY mZ mF mmd mhi mL mN mfr mX mT mct mtk) sz) := by
  refine Met.ofW (cc := c_R_become) (maxL := 10) (ret := none) (by decide) rfl ?_
  intro p e s m args below meth c s₁ B hml hv
  obtain ⟨rfl, hsz, hP, hK, hD0⟩ := hv
  have hx := B.exec
  have hb := B.bytes
  have hr9 := B.returns
  have hts := atoms_spec (ws := ws_R_become) B.pre
  have hw : ∀ w ∈ WB_, w.before _ s = true := fun w h => hts w (List.mem_cons_of_mem _ h)
  have hown : s.vm.findClass R_R = some m.cls := findClass_of_methodNamed B.named
  have hlocks := B.notSynchronized
  subst hsz
  have hD := hD0.self (sz := s.heap.size)
  generalize hAe : va_A (RSw cI cZ b0 bR bI bC bY bZ bF bL bN bX bT mcd mwd men mR mI mC mY mZ mF mmd mhi mL mN mfr mX mT mct mtk) s.heap.size = A at hD ⊢
  have hA : ∀ q : Nat, s.heap.size ≤ q → A q := fun q h => by rw [← hAe]; exact Or.inr h
  have hS : va_S A s.heap s.heap [] := va_S.rf
  have hl := lv_entry ([.ref b0, .int a1, .int a2]) (n := 10) (Nat.le_of_ble_eq_true rfl)
  rw [lg_entry_eq]
  generalize (lg_sl ([.ref b0, .int a1, .int a2]) ++ List.replicate (10 - (lg_sl ([.ref b0, .int a1, .int a2])).length) Slot.unset).toArray = ls at hl ⊢
  have hl : lv_has ls 10 [(0, .ref b0), (1, .int a1), (2, .int a2)] := hl
  have lp_25 : ∀ (y1_25 : Int32) (y2_25 : Int32) (mcd_25 : Int32) (mI_25 : Nat → Int32) (mC_25 : Nat → Int32) (mY_25 : Nat → Int32) (mZ_25 : Nat → Int32) (mF_25 : Nat → Int32) (H : Heap) (locs : List Loc) (ls : Array Slot), va_P (dC, dI) vwCl (RSw cI cZ b0 bR bI bC bY bZ bF bL bN bX bT mcd_25 mwd men mR mI_25 mC_25 mY_25 mZ_25 mF_25 mmd mhi mL mN mfr mX mT mct mtk) H → va_D A (RSw cI cZ b0 bR bI bC bY bZ bF bL bN bX bT mcd_25 mwd men mR mI_25 mC_25 mY_25 mZ_25 mF_25 mmd mhi mL mN mfr mX mT mct mtk) → va_S A s.heap H locs → lv_has ls 10 [(0, .ref b0), (1, .int y1_25), (2, .int y2_25)] → wqR_become_25 mR y1_25 y2_25 mcd_25 mI_25 mC_25 mY_25 mZ_25 mF_25 post → W p l e (headSpec ws_R_become ({ frames := 2, cells := 0, slots := 0, locals := 41 })).room s m ([.ref b0, .int a1, .int a2] : List Value).toArray below meth c H locs (0) (0) (MQ below (va_Qv (fun u : Int32 × (Nat → Int32) × (Nat → Int32) × (Nat → Int32) × (Nat → Int32) × (Nat → Int32) => post u.1 u.2.1 u.2.2.1 u.2.2.2.1 u.2.2.2.2.1 u.2.2.2.2.2) (rw_B (dC, dI) vwCl [(cI, .int), (cZ, .boolean)] A (fun u : Int32 × (Nat → Int32) × (Nat → Int32) × (Nat → Int32) × (Nat → Int32) × (Nat → Int32) => RSw cI cZ b0 bR bI bC bY bZ bF bL bN bX bT u.1 mwd men mR u.2.1 u.2.2.1 u.2.2.2.1 u.2.2.2.2.1 u.2.2.2.2.2 mmd mhi mL mN mfr mX mT mct mtk)) A) ([.ref b0, .int a1, .int a2] : List Value).toArray s 0 0 A) (F0 m 25 ls []) := by
    intro y1_25 y2_25 mcd_25 mI_25 mC_25 mY_25 mZ_25 mF_25 H locs ls hP hD hS hl h
    unfold wqR_become_25 at h
    refine lv_aload_n hx hb d_R_become_25 rfl (lv_at hl 0 rfl) ?_
    refine va_get (D := (dC, dI)) (ci := 2) (v := .int mcd_25) (C := R_R) (T := T_R) (N := 18) hx hb hw in_R hown hK hP 0 rfl rfl 0 (by decide) (hw _ wd_616) (fun _ h9 => h9) rfl d_R_become_26 ?_
    refine lv_if_le (tgt := 33) hx hb d_R_become_29 (by decide) (fun c_29 => ?_) (fun c_29 => ?_)
    · have h := h.1 c_29
      refine lv_aload_n hx hb d_R_become_33 rfl (lv_at hl 0 rfl) ?_
      refine va_get (D := (dC, dI)) (ci := 2) (v := .ref bR) (C := R_R) (T := T_R) (N := 18) hx hb hw in_R hown hK hP 0 rfl rfl 3 (by decide) (hw _ wd_619) (fun _ h9 => h9) rfl d_R_become_34 ?_
      refine lv_iload_n hx hb d_R_become_37 rfl (lv_at hl 1 rfl) ?_
      refine va_iald hx hb hK hP 1 0 rfl rfl h.1 d_R_become_38 ?_
      have h := h.2
      refine rq_calli (W.runS (As := [.int (mR y1_25.toNatClampNeg)]) (rest := []) ⟨hx, hb, hml, hown, hw⟩ (mR_placeOf l (mR y1_25.toNatClampNeg) _ h) (va_cwS 1 hw g_R_62 rfl rfl rfl (by decide +kernel) ⟨Nat.le_of_ble_eq_true rfl, Nat.le_of_ble_eq_true rfl⟩) preEq rfl rfl hl.1 rfl (lv_room (Nat.le_of_ble_eq_true rfl)) d_R_become_39 ⟨Nat.le_of_ble_eq_true rfl, Nat.le_of_ble_eq_true rfl⟩) (fun r39 h => ?_)
      refine lv_istore_n (lv' := [(3, .int r39), (0, .ref b0), (1, .int y1_25), (2, .int y2_25)]) hx hb d_R_become_42 rfl hl (by decide) rfl (fun ls hl => ?_)
      refine lv_aload_n hx hb d_R_become_43 rfl (lv_at hl 1 rfl) ?_
      refine va_get (D := (dC, dI)) (ci := 2) (v := .ref bR) (C := R_R) (T := T_R) (N := 18) hx hb hw in_R hown hK hP 0 rfl rfl 3 (by decide) (hw _ wd_619) (fun _ h9 => h9) rfl d_R_become_44 ?_
      refine lv_iload_n hx hb d_R_become_47 rfl (lv_at hl 3 rfl) ?_
      refine va_iald hx hb hK hP 1 0 rfl rfl h.1 d_R_become_48 ?_
      have h := h.2
      refine rq_calli (W.runS (As := [.int (mR y2_25.toNatClampNeg)]) (rest := []) ⟨hx, hb, hml, hown, hw⟩ (mR_placeOf l (mR y2_25.toNatClampNeg) _ h) (va_cwS 1 hw g_R_62 rfl rfl rfl (by decide +kernel) ⟨Nat.le_of_ble_eq_true rfl, Nat.le_of_ble_eq_true rfl⟩) preEq rfl rfl hl.1 rfl (lv_room (Nat.le_of_ble_eq_true rfl)) d_R_become_49 ⟨Nat.le_of_ble_eq_true rfl, Nat.le_of_ble_eq_true rfl⟩) (fun r49 h => ?_)
      refine lv_istore (lv' := [(4, .int r49), (3, .int r39), (0, .ref b0), (1, .int y1_25), (2, .int y2_25)]) hx hb d_R_become_52 hl (by decide) rfl (fun ls hl => ?_)
      refine lv_aload_n hx hb d_R_become_54 rfl (lv_at hl 2 rfl) ?_
      refine va_get (D := (dC, dI)) (ci := 2) (v := .ref bI) (C := R_R) (T := T_R) (N := 18) hx hb hw in_R hown hK hP 0 rfl rfl 4 (by decide) (hw _ wd_620) (fun _ h9 => h9) rfl d_R_become_55 ?_
      refine lv_iload_n hx hb d_R_become_58 rfl (lv_at hl 1 rfl) ?_
      refine va_iald hx hb hK hP 2 0 rfl rfl h.1 d_R_become_59 ?_
      have h := h.2
      refine lv_istore (lv' := [(5, .int (mI_25 r39.toNatClampNeg)), (4, .int r49), (3, .int r39), (0, .ref b0), (1, .int y1_25), (2, .int y2_25)]) hx hb d_R_become_60 hl (by decide) rfl (fun ls hl => ?_)
      refine lv_aload_n hx hb d_R_become_62 rfl (lv_at hl 3 rfl) ?_
      refine va_get (D := (dC, dI)) (ci := 2) (v := .ref bC) (C := R_R) (T := T_R) (N := 18) hx hb hw in_R hown hK hP 0 rfl rfl 5 (by decide) (hw _ wd_621) (fun _ h9 => h9) rfl d_R_become_63 ?_
      refine lv_iload_n hx hb d_R_become_66 rfl (lv_at hl 2 rfl) ?_
      refine va_iald hx hb hK hP 3 0 rfl rfl h.1 d_R_become_67 ?_
      have h := h.2
      refine lv_istore (lv' := [(6, .int (mC_25 r39.toNatClampNeg)), (5, .int (mI_25 r39.toNatClampNeg)), (4, .int r49), (3, .int r39), (0, .ref b0), (1, .int y1_25), (2, .int y2_25)]) hx hb d_R_become_68 hl (by decide) rfl (fun ls hl => ?_)
      refine lv_aload_n hx hb d_R_become_70 rfl (lv_at hl 4 rfl) ?_
      refine va_get (D := (dC, dI)) (ci := 2) (v := .ref bY) (C := R_R) (T := T_R) (N := 18) hx hb hw in_R hown hK hP 0 rfl rfl 6 (by decide) (hw _ wd_622) (fun _ h9 => h9) rfl d_R_become_71 ?_
      refine lv_iload_n hx hb d_R_become_74 rfl (lv_at hl 3 rfl) ?_
      refine va_zald hx hb hK hP 4 1 rfl rfl h.1 d_R_become_75 ?_
      have h := h.2
      refine lv_istore (lv' := [(7, .int (mY_25 r39.toNatClampNeg)), (6, .int (mC_25 r39.toNatClampNeg)), (5, .int (mI_25 r39.toNatClampNeg)), (4, .int r49), (3, .int r39), (0, .ref b0), (1, .int y1_25), (2, .int y2_25)]) hx hb d_R_become_76 hl (by decide) rfl (fun ls hl => ?_)
      refine lv_aload_n hx hb d_R_become_78 rfl (lv_at hl 5 rfl) ?_
      refine va_get (D := (dC, dI)) (ci := 2) (v := .ref bZ) (C := R_R) (T := T_R) (N := 18) hx hb hw in_R hown hK hP 0 rfl rfl 7 (by decide) (hw _ wd_623) (fun _ h9 => h9) rfl d_R_become_79 ?_
      refine lv_iload_n hx hb d_R_become_82 rfl (lv_at hl 4 rfl) ?_
      refine va_iald hx hb hK hP 5 0 rfl rfl h.1 d_R_become_83 ?_
      have h := h.2
      refine lv_istore (lv' := [(8, .int (mZ_25 r39.toNatClampNeg)), (7, .int (mY_25 r39.toNatClampNeg)), (6, .int (mC_25 r39.toNatClampNeg)), (5, .int (mI_25 r39.toNatClampNeg)), (4, .int r49), (3, .int r39), (0, .ref b0), (1, .int y1_25), (2, .int y2_25)]) hx hb d_R_become_84 hl (by decide) rfl (fun ls hl => ?_)
      refine lv_aload_n hx hb d_R_become_86 rfl (lv_at hl 6 rfl) ?_
      refine va_get (D := (dC, dI)) (ci := 2) (v := .ref bF) (C := R_R) (T := T_R) (N := 18) hx hb hw in_R hown hK hP 0 rfl rfl 8 (by decide) (hw _ wd_624) (fun _ h9 => h9) rfl d_R_become_87 ?_
      refine lv_iload_n hx hb d_R_become_90 rfl (lv_at hl 5 rfl) ?_
      refine va_iald hx hb hK hP 6 0 rfl rfl h.1 d_R_become_91 ?_
      have h := h.2
      refine lv_istore (lv' := [(9, .int (mF_25 r39.toNatClampNeg)), (8, .int (mZ_25 r39.toNatClampNeg)), (7, .int (mY_25 r39.toNatClampNeg)), (6, .int (mC_25 r39.toNatClampNeg)), (5, .int (mI_25 r39.toNatClampNeg)), (4, .int r49), (3, .int r39), (0, .ref b0), (1, .int y1_25), (2, .int y2_25)]) hx hb d_R_become_92 hl (by decide) rfl (fun ls hl => ?_)
      refine lv_aload_n hx hb d_R_become_94 rfl (lv_at hl 7 rfl) ?_
      refine va_get (D := (dC, dI)) (ci := 2) (v := .ref bI) (C := R_R) (T := T_R) (N := 18) hx hb hw in_R hown hK hP 0 rfl rfl 4 (by decide) (hw _ wd_620) (fun _ h9 => h9) rfl d_R_become_95 ?_
      refine lv_iload_n hx hb d_R_become_98 rfl (lv_at hl 6 rfl) ?_
      refine lv_aload_n hx hb d_R_become_99 rfl (lv_at hl 7 rfl) ?_
      refine va_get (D := (dC, dI)) (ci := 2) (v := .ref bI) (C := R_R) (T := T_R) (N := 18) hx hb hw in_R hown hK hP 0 rfl rfl 4 (by decide) (hw _ wd_620) (fun _ h9 => h9) rfl d_R_become_100 ?_
      refine lv_iload hx hb d_R_become_103 (lv_at hl 5 rfl) ?_
      refine va_iald hx hb hK hP 2 0 rfl rfl h.1 d_R_become_105 ?_
      have h := h.2
      refine va_iast hx hb hK hP hD hS 2 0 rfl rfl h.1 d_R_become_106 (fun H locs hP hD hS => ?_)
      have hP : va_P (dC, dI) vwCl (RSw cI cZ b0 bR bI bC bY bZ bF bL bN bX bT mcd_25 mwd men mR (upd mI_25 r39.toNatClampNeg (mI_25 r49.toNatClampNeg)) mC_25 mY_25 mZ_25 mF_25 mmd mhi mL mN mfr mX mT mct mtk) H := hP
      have hD : va_D A (RSw cI cZ b0 bR bI bC bY bZ bF bL bN bX bT mcd_25 mwd men mR (upd mI_25 r39.toNatClampNeg (mI_25 r49.toNatClampNeg)) mC_25 mY_25 mZ_25 mF_25 mmd mhi mL mN mfr mX mT mct mtk) := hD
      have h := h.2
      refine lv_aload_n hx hb d_R_become_107 rfl (lv_at hl 7 rfl) ?_
      refine va_get (D := (dC, dI)) (ci := 2) (v := .ref bC) (C := R_R) (T := T_R) (N := 18) hx hb hw in_R hown hK hP 0 rfl rfl 5 (by decide) (hw _ wd_621) (fun _ h9 => h9) rfl d_R_become_108 ?_
      refine lv_iload_n hx hb d_R_become_111 rfl (lv_at hl 6 rfl) ?_
      refine lv_aload_n hx hb d_R_become_112 rfl (lv_at hl 7 rfl) ?_
      refine va_get (D := (dC, dI)) (ci := 2) (v := .ref bC) (C := R_R) (T := T_R) (N := 18) hx hb hw in_R hown hK hP 0 rfl rfl 5 (by decide) (hw _ wd_621) (fun _ h9 => h9) rfl d_R_become_113 ?_
      refine lv_iload hx hb d_R_become_116 (lv_at hl 5 rfl) ?_
      refine va_iald hx hb hK hP 3 0 rfl rfl h.1 d_R_become_118 ?_
      have h := h.2
      refine va_iast hx hb hK hP hD hS 3 0 rfl rfl h.1 d_R_become_119 (fun H locs hP hD hS => ?_)
      have hP : va_P (dC, dI) vwCl (RSw cI cZ b0 bR bI bC bY bZ bF bL bN bX bT mcd_25 mwd men mR (upd mI_25 r39.toNatClampNeg (mI_25 r49.toNatClampNeg)) (upd mC_25 r39.toNatClampNeg (mC_25 r49.toNatClampNeg)) mY_25 mZ_25 mF_25 mmd mhi mL mN mfr mX mT mct mtk) H := hP
      have hD : va_D A (RSw cI cZ b0 bR bI bC bY bZ bF bL bN bX bT mcd_25 mwd men mR (upd mI_25 r39.toNatClampNeg (mI_25 r49.toNatClampNeg)) (upd mC_25 r39.toNatClampNeg (mC_25 r49.toNatClampNeg)) mY_25 mZ_25 mF_25 mmd mhi mL mN mfr mX mT mct mtk) := hD
      have h := h.2
      refine lv_aload_n hx hb d_R_become_120 rfl (lv_at hl 7 rfl) ?_
      refine va_get (D := (dC, dI)) (ci := 2) (v := .ref bY) (C := R_R) (T := T_R) (N := 18) hx hb hw in_R hown hK hP 0 rfl rfl 6 (by decide) (hw _ wd_622) (fun _ h9 => h9) rfl d_R_become_121 ?_
      refine lv_iload_n hx hb d_R_become_124 rfl (lv_at hl 6 rfl) ?_
      refine lv_aload_n hx hb d_R_become_125 rfl (lv_at hl 7 rfl) ?_
      refine va_get (D := (dC, dI)) (ci := 2) (v := .ref bY) (C := R_R) (T := T_R) (N := 18) hx hb hw in_R hown hK hP 0 rfl rfl 6 (by decide) (hw _ wd_622) (fun _ h9 => h9) rfl d_R_become_126 ?_
      refine lv_iload hx hb d_R_become_129 (lv_at hl 5 rfl) ?_
      refine va_zald hx hb hK hP 4 1 rfl rfl h.1 d_R_become_131 ?_
      have h := h.2
      refine va_zast hx hb hK hP hD hS 4 1 rfl rfl h.1 d_R_become_132 (fun H locs hP hD hS => ?_)
      have hP : va_P (dC, dI) vwCl (RSw cI cZ b0 bR bI bC bY bZ bF bL bN bX bT mcd_25 mwd men mR (upd mI_25 r39.toNatClampNeg (mI_25 r49.toNatClampNeg)) (upd mC_25 r39.toNatClampNeg (mC_25 r49.toNatClampNeg)) (upd mY_25 r39.toNatClampNeg (vp_nar .boolean (mY_25 r49.toNatClampNeg))) mZ_25 mF_25 mmd mhi mL mN mfr mX mT mct mtk) H := hP
      have hD : va_D A (RSw cI cZ b0 bR bI bC bY bZ bF bL bN bX bT mcd_25 mwd men mR (upd mI_25 r39.toNatClampNeg (mI_25 r49.toNatClampNeg)) (upd mC_25 r39.toNatClampNeg (mC_25 r49.toNatClampNeg)) (upd mY_25 r39.toNatClampNeg (vp_nar .boolean (mY_25 r49.toNatClampNeg))) mZ_25 mF_25 mmd mhi mL mN mfr mX mT mct mtk) := hD
      have h := h.2
      refine lv_aload_n hx hb d_R_become_133 rfl (lv_at hl 7 rfl) ?_
      refine va_get (D := (dC, dI)) (ci := 2) (v := .ref bZ) (C := R_R) (T := T_R) (N := 18) hx hb hw in_R hown hK hP 0 rfl rfl 7 (by decide) (hw _ wd_623) (fun _ h9 => h9) rfl d_R_become_134 ?_
      refine lv_iload_n hx hb d_R_become_137 rfl (lv_at hl 6 rfl) ?_
      refine lv_aload_n hx hb d_R_become_138 rfl (lv_at hl 7 rfl) ?_
      refine va_get (D := (dC, dI)) (ci := 2) (v := .ref bZ) (C := R_R) (T := T_R) (N := 18) hx hb hw in_R hown hK hP 0 rfl rfl 7 (by decide) (hw _ wd_623) (fun _ h9 => h9) rfl d_R_become_139 ?_
      refine lv_iload hx hb d_R_become_142 (lv_at hl 5 rfl) ?_
      refine va_iald hx hb hK hP 5 0 rfl rfl h.1 d_R_become_144 ?_
      have h := h.2
      refine va_iast hx hb hK hP hD hS 5 0 rfl rfl h.1 d_R_become_145 (fun H locs hP hD hS => ?_)
      have hP : va_P (dC, dI) vwCl (RSw cI cZ b0 bR bI bC bY bZ bF bL bN bX bT mcd_25 mwd men mR (upd mI_25 r39.toNatClampNeg (mI_25 r49.toNatClampNeg)) (upd mC_25 r39.toNatClampNeg (mC_25 r49.toNatClampNeg)) (upd mY_25 r39.toNatClampNeg (vp_nar .boolean (mY_25 r49.toNatClampNeg))) (upd mZ_25 r39.toNatClampNeg (mZ_25 r49.toNatClampNeg)) mF_25 mmd mhi mL mN mfr mX mT mct mtk) H := hP
      have hD : va_D A (RSw cI cZ b0 bR bI bC bY bZ bF bL bN bX bT mcd_25 mwd men mR (upd mI_25 r39.toNatClampNeg (mI_25 r49.toNatClampNeg)) (upd mC_25 r39.toNatClampNeg (mC_25 r49.toNatClampNeg)) (upd mY_25 r39.toNatClampNeg (vp_nar .boolean (mY_25 r49.toNatClampNeg))) (upd mZ_25 r39.toNatClampNeg (mZ_25 r49.toNatClampNeg)) mF_25 mmd mhi mL mN mfr mX mT mct mtk) := hD
      have h := h.2
      refine lv_aload_n hx hb d_R_become_146 rfl (lv_at hl 7 rfl) ?_
      refine va_get (D := (dC, dI)) (ci := 2) (v := .ref bF) (C := R_R) (T := T_R) (N := 18) hx hb hw in_R hown hK hP 0 rfl rfl 8 (by decide) (hw _ wd_624) (fun _ h9 => h9) rfl d_R_become_147 ?_
      refine lv_iload_n hx hb d_R_become_150 rfl (lv_at hl 6 rfl) ?_
      refine lv_aload_n hx hb d_R_become_151 rfl (lv_at hl 7 rfl) ?_
      refine va_get (D := (dC, dI)) (ci := 2) (v := .ref bF) (C := R_R) (T := T_R) (N := 18) hx hb hw in_R hown hK hP 0 rfl rfl 8 (by decide) (hw _ wd_624) (fun _ h9 => h9) rfl d_R_become_152 ?_
      refine lv_iload hx hb d_R_become_155 (lv_at hl 5 rfl) ?_
      refine va_iald hx hb hK hP 6 0 rfl rfl h.1 d_R_become_157 ?_
      have h := h.2
      refine va_iast hx hb hK hP hD hS 6 0 rfl rfl h.1 d_R_become_158 (fun H locs hP hD hS => ?_)
      have hP : va_P (dC, dI) vwCl (RSw cI cZ b0 bR bI bC bY bZ bF bL bN bX bT mcd_25 mwd men mR (upd mI_25 r39.toNatClampNeg (mI_25 r49.toNatClampNeg)) (upd mC_25 r39.toNatClampNeg (mC_25 r49.toNatClampNeg)) (upd mY_25 r39.toNatClampNeg (vp_nar .boolean (mY_25 r49.toNatClampNeg))) (upd mZ_25 r39.toNatClampNeg (mZ_25 r49.toNatClampNeg)) (upd mF_25 r39.toNatClampNeg (mF_25 r49.toNatClampNeg)) mmd mhi mL mN mfr mX mT mct mtk) H := hP
      have hD : va_D A (RSw cI cZ b0 bR bI bC bY bZ bF bL bN bX bT mcd_25 mwd men mR (upd mI_25 r39.toNatClampNeg (mI_25 r49.toNatClampNeg)) (upd mC_25 r39.toNatClampNeg (mC_25 r49.toNatClampNeg)) (upd mY_25 r39.toNatClampNeg (vp_nar .boolean (mY_25 r49.toNatClampNeg))) (upd mZ_25 r39.toNatClampNeg (mZ_25 r49.toNatClampNeg)) (upd mF_25 r39.toNatClampNeg (mF_25 r49.toNatClampNeg)) mmd mhi mL mN mfr mX mT mct mtk) := hD
      have h := h.2
      refine lv_aload_n hx hb d_R_become_159 rfl (lv_at hl 7 rfl) ?_
      refine va_get (D := (dC, dI)) (ci := 2) (v := .ref bI) (C := R_R) (T := T_R) (N := 18) hx hb hw in_R hown hK hP 0 rfl rfl 4 (by decide) (hw _ wd_620) (fun _ h9 => h9) rfl d_R_become_160 ?_
      refine lv_iload hx hb d_R_become_163 (lv_at hl 5 rfl) ?_
      refine lv_iload hx hb d_R_become_165 (lv_at hl 4 rfl) ?_
      refine va_iast hx hb hK hP hD hS 2 0 rfl rfl h.1 d_R_become_167 (fun H locs hP hD hS => ?_)
      have hP : va_P (dC, dI) vwCl (RSw cI cZ b0 bR bI bC bY bZ bF bL bN bX bT mcd_25 mwd men mR (upd (upd mI_25 r39.toNatClampNeg (mI_25 r49.toNatClampNeg)) r49.toNatClampNeg (mI_25 r39.toNatClampNeg)) (upd mC_25 r39.toNatClampNeg (mC_25 r49.toNatClampNeg)) (upd mY_25 r39.toNatClampNeg (vp_nar .boolean (mY_25 r49.toNatClampNeg))) (upd mZ_25 r39.toNatClampNeg (mZ_25 r49.toNatClampNeg)) (upd mF_25 r39.toNatClampNeg (mF_25 r49.toNatClampNeg)) mmd mhi mL mN mfr mX mT mct mtk) H := hP
      have hD : va_D A (RSw cI cZ b0 bR bI bC bY bZ bF bL bN bX bT mcd_25 mwd men mR (upd (upd mI_25 r39.toNatClampNeg (mI_25 r49.toNatClampNeg)) r49.toNatClampNeg (mI_25 r39.toNatClampNeg)) (upd mC_25 r39.toNatClampNeg (mC_25 r49.toNatClampNeg)) (upd mY_25 r39.toNatClampNeg (vp_nar .boolean (mY_25 r49.toNatClampNeg))) (upd mZ_25 r39.toNatClampNeg (mZ_25 r49.toNatClampNeg)) (upd mF_25 r39.toNatClampNeg (mF_25 r49.toNatClampNeg)) mmd mhi mL mN mfr mX mT mct mtk) := hD
      have h := h.2
      refine lv_aload_n hx hb d_R_become_168 rfl (lv_at hl 7 rfl) ?_
      refine va_get (D := (dC, dI)) (ci := 2) (v := .ref bC) (C := R_R) (T := T_R) (N := 18) hx hb hw in_R hown hK hP 0 rfl rfl 5 (by decide) (hw _ wd_621) (fun _ h9 => h9) rfl d_R_become_169 ?_
      refine lv_iload hx hb d_R_become_172 (lv_at hl 5 rfl) ?_
      refine lv_iload hx hb d_R_become_174 (lv_at hl 3 rfl) ?_
      refine va_iast hx hb hK hP hD hS 3 0 rfl rfl h.1 d_R_become_176 (fun H locs hP hD hS => ?_)
      have hP : va_P (dC, dI) vwCl (RSw cI cZ b0 bR bI bC bY bZ bF bL bN bX bT mcd_25 mwd men mR (upd (upd mI_25 r39.toNatClampNeg (mI_25 r49.toNatClampNeg)) r49.toNatClampNeg (mI_25 r39.toNatClampNeg)) (upd (upd mC_25 r39.toNatClampNeg (mC_25 r49.toNatClampNeg)) r49.toNatClampNeg (mC_25 r39.toNatClampNeg)) (upd mY_25 r39.toNatClampNeg (vp_nar .boolean (mY_25 r49.toNatClampNeg))) (upd mZ_25 r39.toNatClampNeg (mZ_25 r49.toNatClampNeg)) (upd mF_25 r39.toNatClampNeg (mF_25 r49.toNatClampNeg)) mmd mhi mL mN mfr mX mT mct mtk) H := hP
      have hD : va_D A (RSw cI cZ b0 bR bI bC bY bZ bF bL bN bX bT mcd_25 mwd men mR (upd (upd mI_25 r39.toNatClampNeg (mI_25 r49.toNatClampNeg)) r49.toNatClampNeg (mI_25 r39.toNatClampNeg)) (upd (upd mC_25 r39.toNatClampNeg (mC_25 r49.toNatClampNeg)) r49.toNatClampNeg (mC_25 r39.toNatClampNeg)) (upd mY_25 r39.toNatClampNeg (vp_nar .boolean (mY_25 r49.toNatClampNeg))) (upd mZ_25 r39.toNatClampNeg (mZ_25 r49.toNatClampNeg)) (upd mF_25 r39.toNatClampNeg (mF_25 r49.toNatClampNeg)) mmd mhi mL mN mfr mX mT mct mtk) := hD
      have h := h.2
      refine lv_aload_n hx hb d_R_become_177 rfl (lv_at hl 7 rfl) ?_
      refine va_get (D := (dC, dI)) (ci := 2) (v := .ref bY) (C := R_R) (T := T_R) (N := 18) hx hb hw in_R hown hK hP 0 rfl rfl 6 (by decide) (hw _ wd_622) (fun _ h9 => h9) rfl d_R_become_178 ?_
      refine lv_iload hx hb d_R_become_181 (lv_at hl 5 rfl) ?_
      refine lv_iload hx hb d_R_become_183 (lv_at hl 2 rfl) ?_
      refine va_zast hx hb hK hP hD hS 4 1 rfl rfl h.1 d_R_become_185 (fun H locs hP hD hS => ?_)
      have hP : va_P (dC, dI) vwCl (RSw cI cZ b0 bR bI bC bY bZ bF bL bN bX bT mcd_25 mwd men mR (upd (upd mI_25 r39.toNatClampNeg (mI_25 r49.toNatClampNeg)) r49.toNatClampNeg (mI_25 r39.toNatClampNeg)) (upd (upd mC_25 r39.toNatClampNeg (mC_25 r49.toNatClampNeg)) r49.toNatClampNeg (mC_25 r39.toNatClampNeg)) (upd (upd mY_25 r39.toNatClampNeg (vp_nar .boolean (mY_25 r49.toNatClampNeg))) r49.toNatClampNeg (vp_nar .boolean (mY_25 r39.toNatClampNeg))) (upd mZ_25 r39.toNatClampNeg (mZ_25 r49.toNatClampNeg)) (upd mF_25 r39.toNatClampNeg (mF_25 r49.toNatClampNeg)) mmd mhi mL mN mfr mX mT mct mtk) H := hP
      have hD : va_D A (RSw cI cZ b0 bR bI bC bY bZ bF bL bN bX bT mcd_25 mwd men mR (upd (upd mI_25 r39.toNatClampNeg (mI_25 r49.toNatClampNeg)) r49.toNatClampNeg (mI_25 r39.toNatClampNeg)) (upd (upd mC_25 r39.toNatClampNeg (mC_25 r49.toNatClampNeg)) r49.toNatClampNeg (mC_25 r39.toNatClampNeg)) (upd (upd mY_25 r39.toNatClampNeg (vp_nar .boolean (mY_25 r49.toNatClampNeg))) r49.toNatClampNeg (vp_nar .boolean (mY_25 r39.toNatClampNeg))) (upd mZ_25 r39.toNatClampNeg (mZ_25 r49.toNatClampNeg)) (upd mF_25 r39.toNatClampNeg (mF_25 r49.toNatClampNeg)) mmd mhi mL mN mfr mX mT mct mtk) := hD
      have h := h.2
      refine lv_aload_n hx hb d_R_become_186 rfl (lv_at hl 7 rfl) ?_
      refine va_get (D := (dC, dI)) (ci := 2) (v := .ref bZ) (C := R_R) (T := T_R) (N := 18) hx hb hw in_R hown hK hP 0 rfl rfl 7 (by decide) (hw _ wd_623) (fun _ h9 => h9) rfl d_R_become_187 ?_
      refine lv_iload hx hb d_R_become_190 (lv_at hl 5 rfl) ?_
      refine lv_iload hx hb d_R_become_192 (lv_at hl 1 rfl) ?_
      refine va_iast hx hb hK hP hD hS 5 0 rfl rfl h.1 d_R_become_194 (fun H locs hP hD hS => ?_)
      have hP : va_P (dC, dI) vwCl (RSw cI cZ b0 bR bI bC bY bZ bF bL bN bX bT mcd_25 mwd men mR (upd (upd mI_25 r39.toNatClampNeg (mI_25 r49.toNatClampNeg)) r49.toNatClampNeg (mI_25 r39.toNatClampNeg)) (upd (upd mC_25 r39.toNatClampNeg (mC_25 r49.toNatClampNeg)) r49.toNatClampNeg (mC_25 r39.toNatClampNeg)) (upd (upd mY_25 r39.toNatClampNeg (vp_nar .boolean (mY_25 r49.toNatClampNeg))) r49.toNatClampNeg (vp_nar .boolean (mY_25 r39.toNatClampNeg))) (upd (upd mZ_25 r39.toNatClampNeg (mZ_25 r49.toNatClampNeg)) r49.toNatClampNeg (mZ_25 r39.toNatClampNeg)) (upd mF_25 r39.toNatClampNeg (mF_25 r49.toNatClampNeg)) mmd mhi mL mN mfr mX mT mct mtk) H := hP
      have hD : va_D A (RSw cI cZ b0 bR bI bC bY bZ bF bL bN bX bT mcd_25 mwd men mR (upd (upd mI_25 r39.toNatClampNeg (mI_25 r49.toNatClampNeg)) r49.toNatClampNeg (mI_25 r39.toNatClampNeg)) (upd (upd mC_25 r39.toNatClampNeg (mC_25 r49.toNatClampNeg)) r49.toNatClampNeg (mC_25 r39.toNatClampNeg)) (upd (upd mY_25 r39.toNatClampNeg (vp_nar .boolean (mY_25 r49.toNatClampNeg))) r49.toNatClampNeg (vp_nar .boolean (mY_25 r39.toNatClampNeg))) (upd (upd mZ_25 r39.toNatClampNeg (mZ_25 r49.toNatClampNeg)) r49.toNatClampNeg (mZ_25 r39.toNatClampNeg)) (upd mF_25 r39.toNatClampNeg (mF_25 r49.toNatClampNeg)) mmd mhi mL mN mfr mX mT mct mtk) := hD
      have h := h.2
      refine lv_aload_n hx hb d_R_become_195 rfl (lv_at hl 7 rfl) ?_
      refine va_get (D := (dC, dI)) (ci := 2) (v := .ref bF) (C := R_R) (T := T_R) (N := 18) hx hb hw in_R hown hK hP 0 rfl rfl 8 (by decide) (hw _ wd_624) (fun _ h9 => h9) rfl d_R_become_196 ?_
      refine lv_iload hx hb d_R_become_199 (lv_at hl 5 rfl) ?_
      refine lv_iload hx hb d_R_become_201 (lv_at hl 0 rfl) ?_
      refine va_iast hx hb hK hP hD hS 6 0 rfl rfl h.1 d_R_become_203 (fun H locs hP hD hS => ?_)
      have hP : va_P (dC, dI) vwCl (RSw cI cZ b0 bR bI bC bY bZ bF bL bN bX bT mcd_25 mwd men mR (upd (upd mI_25 r39.toNatClampNeg (mI_25 r49.toNatClampNeg)) r49.toNatClampNeg (mI_25 r39.toNatClampNeg)) (upd (upd mC_25 r39.toNatClampNeg (mC_25 r49.toNatClampNeg)) r49.toNatClampNeg (mC_25 r39.toNatClampNeg)) (upd (upd mY_25 r39.toNatClampNeg (vp_nar .boolean (mY_25 r49.toNatClampNeg))) r49.toNatClampNeg (vp_nar .boolean (mY_25 r39.toNatClampNeg))) (upd (upd mZ_25 r39.toNatClampNeg (mZ_25 r49.toNatClampNeg)) r49.toNatClampNeg (mZ_25 r39.toNatClampNeg)) (upd (upd mF_25 r39.toNatClampNeg (mF_25 r49.toNatClampNeg)) r49.toNatClampNeg (mF_25 r39.toNatClampNeg)) mmd mhi mL mN mfr mX mT mct mtk) H := hP
      have hD : va_D A (RSw cI cZ b0 bR bI bC bY bZ bF bL bN bX bT mcd_25 mwd men mR (upd (upd mI_25 r39.toNatClampNeg (mI_25 r49.toNatClampNeg)) r49.toNatClampNeg (mI_25 r39.toNatClampNeg)) (upd (upd mC_25 r39.toNatClampNeg (mC_25 r49.toNatClampNeg)) r49.toNatClampNeg (mC_25 r39.toNatClampNeg)) (upd (upd mY_25 r39.toNatClampNeg (vp_nar .boolean (mY_25 r49.toNatClampNeg))) r49.toNatClampNeg (vp_nar .boolean (mY_25 r39.toNatClampNeg))) (upd (upd mZ_25 r39.toNatClampNeg (mZ_25 r49.toNatClampNeg)) r49.toNatClampNeg (mZ_25 r39.toNatClampNeg)) (upd (upd mF_25 r39.toNatClampNeg (mF_25 r49.toNatClampNeg)) r49.toNatClampNeg (mF_25 r39.toNatClampNeg)) mmd mhi mL mN mfr mX mT mct mtk) := hD
      have h := h.2
      exact W.vret hx hb hr9 (fun t ht hW => ⟨⟨(mcd_25, upd (upd mI_25 r39.toNatClampNeg (mI_25 r49.toNatClampNeg)) r49.toNatClampNeg (mI_25 r39.toNatClampNeg), upd (upd mC_25 r39.toNatClampNeg (mC_25 r49.toNatClampNeg)) r49.toNatClampNeg (mC_25 r39.toNatClampNeg), upd (upd mY_25 r39.toNatClampNeg (vp_nar .boolean (mY_25 r49.toNatClampNeg))) r49.toNatClampNeg (vp_nar .boolean (mY_25 r39.toNatClampNeg)), upd (upd mZ_25 r39.toNatClampNeg (mZ_25 r49.toNatClampNeg)) r49.toNatClampNeg (mZ_25 r39.toNatClampNeg), upd (upd mF_25 r39.toNatClampNeg (mF_25 r49.toNatClampNeg)) r49.toNatClampNeg (mF_25 r39.toNatClampNeg)), rfl, h, by rw [ht]; exact hP, va_K.moved hW.alike hK, hD⟩, hS.F ht⟩) hS.2.2 d_R_become_204
    · have h := h.2 c_29
      exact W.vret hx hb hr9 (fun t ht hW => ⟨⟨(mcd_25, mI_25, mC_25, mY_25, mZ_25, mF_25), rfl, h, by rw [ht]; exact hP, va_K.moved hW.alike hK, hD⟩, hS.F ht⟩) hS.2.2 d_R_become_32
  unfold wqR_become at h
  refine lv_aload_n hx hb d_R_become_0 rfl (lv_at hl 0 rfl) ?_
  refine lv_aload_n hx hb d_R_become_1 rfl (lv_at hl 0 rfl) ?_
  refine lv_iload_n hx hb d_R_become_2 rfl (lv_at hl 1 rfl) ?_
  refine rq_calli (W.runV (As := [.int a1]) (rest := [.ref b0]) ⟨hx, hb, hml, hown, hw⟩ (mR_has l dC dI cI cZ b0 bR bI bC bY bZ bF bL bN bX bT mcd mwd men mR mI mC mY mZ mF mmd mhi mL mN mfr mX mT mct mtk a1 _ h) (cwV 1 hw g_R_59 rfl rfl rfl (by decide +kernel) ⟨Nat.le_of_ble_eq_true rfl, Nat.le_of_ble_eq_true rfl⟩) (ro_PV (ci := 2) (q0 := 0) hK hP rfl rfl) rfl rfl hl.1 rfl (lv_room (Nat.le_of_ble_eq_true rfl)) d_R_become_3 ⟨Nat.le_of_ble_eq_true rfl, Nat.le_of_ble_eq_true rfl⟩) (fun r3 h => ?_)
  refine lv_if_eq (tgt := 21) hx hb d_R_become_6 (by decide) (fun c_6 => ?_) (fun c_6 => ?_)
  · have h := h.1 c_6
    refine lv_iconst (v := (1 : Int32)) hx hb d_R_become_21 (by decide) ?_
    refine va_put (D := (dC, dI)) (ci := 2) (v := .int (1 : Int32)) (ty := .int) (C := R_R) (T := T_R) (N := 18) hx hb hw in_R ty_R ty_R_ok nm_R hown hK hP hD hS 0 rfl rfl 0 (by decide) (hw _ wd_616) (fun _ h9 => h9) rfl (by decide +kernel) rfl rfl (Nat.le_of_ble_eq_true rfl) d_R_become_22 (fun H locs hP hD hS => ?_)
    have hP : va_P (dC, dI) vwCl (RSw cI cZ b0 bR bI bC bY bZ bF bL bN bX bT (1 : Int32) mwd men mR mI mC mY mZ mF mmd mhi mL mN mfr mX mT mct mtk) H := hP
    have hD : va_D A (RSw cI cZ b0 bR bI bC bY bZ bF bL bN bX bT (1 : Int32) mwd men mR mI mC mY mZ mF mmd mhi mL mN mfr mX mT mct mtk) := hD
    exact lp_25 a1 a2 (1 : Int32) mI mC mY mZ mF H locs ls hP hD hS (lv_sub hl [0, 1, 2] rfl) h
  · have h := h.2 c_6
    refine lv_aload_n hx hb d_R_become_9 rfl (lv_at hl 0 rfl) ?_
    refine lv_iload_n hx hb d_R_become_10 rfl (lv_at hl 2 rfl) ?_
    refine rq_calli (W.runV (As := [.int a2]) (rest := [.ref b0]) ⟨hx, hb, hml, hown, hw⟩ (mR_has l dC dI cI cZ b0 bR bI bC bY bZ bF bL bN bX bT mcd mwd men mR mI mC mY mZ mF mmd mhi mL mN mfr mX mT mct mtk a2 _ h) (cwV 1 hw g_R_59 rfl rfl rfl (by decide +kernel) ⟨Nat.le_of_ble_eq_true rfl, Nat.le_of_ble_eq_true rfl⟩) (ro_PV (ci := 2) (q0 := 0) hK hP rfl rfl) rfl rfl hl.1 rfl (lv_room (Nat.le_of_ble_eq_true rfl)) d_R_become_11 ⟨Nat.le_of_ble_eq_true rfl, Nat.le_of_ble_eq_true rfl⟩) (fun r11 h => ?_)
    refine lv_if_eq (tgt := 21) hx hb d_R_become_14 (by decide) (fun c_14 => ?_) (fun c_14 => ?_)
    · have h := h.1 c_14
      refine lv_iconst (v := (1 : Int32)) hx hb d_R_become_21 (by decide) ?_
      refine va_put (D := (dC, dI)) (ci := 2) (v := .int (1 : Int32)) (ty := .int) (C := R_R) (T := T_R) (N := 18) hx hb hw in_R ty_R ty_R_ok nm_R hown hK hP hD hS 0 rfl rfl 0 (by decide) (hw _ wd_616) (fun _ h9 => h9) rfl (by decide +kernel) rfl rfl (Nat.le_of_ble_eq_true rfl) d_R_become_22 (fun H locs hP hD hS => ?_)
      have hP : va_P (dC, dI) vwCl (RSw cI cZ b0 bR bI bC bY bZ bF bL bN bX bT (1 : Int32) mwd men mR mI mC mY mZ mF mmd mhi mL mN mfr mX mT mct mtk) H := hP
      have hD : va_D A (RSw cI cZ b0 bR bI bC bY bZ bF bL bN bX bT (1 : Int32) mwd men mR mI mC mY mZ mF mmd mhi mL mN mfr mX mT mct mtk) := hD
      exact lp_25 a1 a2 (1 : Int32) mI mC mY mZ mF H locs ls hP hD hS (lv_sub hl [0, 1, 2] rfl) h
    · have h := h.2 c_14
      refine lv_iconst (v := (0 : Int32)) hx hb d_R_become_17 (by decide) ?_
      refine lv_goto (tgt := 22) hx hb d_R_become_18 (by decide) ?_
      refine va_put (D := (dC, dI)) (ci := 2) (v := .int (0 : Int32)) (ty := .int) (C := R_R) (T := T_R) (N := 18) hx hb hw in_R ty_R ty_R_ok nm_R hown hK hP hD hS 0 rfl rfl 0 (by decide) (hw _ wd_616) (fun _ h9 => h9) rfl (by decide +kernel) rfl rfl (Nat.le_of_ble_eq_true rfl) d_R_become_22 (fun H locs hP hD hS => ?_)
      have hP : va_P (dC, dI) vwCl (RSw cI cZ b0 bR bI bC bY bZ bF bL bN bX bT (0 : Int32) mwd men mR mI mC mY mZ mF mmd mhi mL mN mfr mX mT mct mtk) H := hP
      have hD : va_D A (RSw cI cZ b0 bR bI bC bY bZ bF bL bN bX bT (0 : Int32) mwd men mR mI mC mY mZ mF mmd mhi mL mN mfr mX mT mct mtk) := hD
      exact lp_25 a1 a2 (0 : Int32) mI mC mY mZ mF H locs ls hP hD hS (lv_sub hl [0, 1, 2] rfl) h
def wqR_words (mcd : Int32) (mwd : Int32) (men : Int32) (mR : Nat → Int32) (mC : Nat → Int32) (mY : Nat → Int32) (mZ : Nat → Int32) (mF : Nat → Int32) (mL : Nat → Int32) (mN : Nat → Int32) (mX : Nat → Int32) (mT : Nat → Int32) (mct : Int32) (mtk : Int32) (post : Int32 → Int32 → (Nat → Int32) → (Nat → Int32) → Int32 → Int32 → Prop) : Prop :=
  wqR_reach men mR mC mY mZ mF mL mN mX mT mct mtk (fun mX_6 mT_6 mct_6 mtk_6 => post (mwd - mtk_6) (0 : Int32) mX_6 mT_6 mct_6 mtk_6)
set_option maxHeartbeats 4000000 in
set_option maxRecDepth 100000 in
theorem mR_words (l : Launch) (dC : Nat → ClassId) (dI : Nat → Nat → Nat) (cI : ClassId) (cZ : ClassId) (b0 : Nat) (bR : Nat) (bI : Nat) (bC : Nat) (bY : Nat) (bZ : Nat) (bF : Nat) (bL : Nat) (bN : Nat) (bX : Nat) (bT : Nat) (sz : Nat) (mcd : Int32) (mwd : Int32) (men : Int32) (mR : Nat → Int32) (mI : Nat → Int32) (mC : Nat → Int32) (mY : Nat → Int32) (mZ : Nat → Int32) (mF : Nat → Int32) (mmd : Int32) (mhi : Int32) (mL : Nat → Int32) (mN : Nat → Int32) (mfr : Int32) (mX : Nat → Int32) (mT : Nat → Int32) (mct : Int32) (mtk : Int32) (post : Int32 → Int32 → (Nat → Int32) → (Nat → Int32) → Int32 → Int32 → Prop) (h : wqR_words mcd mwd men mR mC mY mZ mF mL mN mX mT mct mtk post) : Met l y_R_words ws_R_words ({ frames := 4, cells := 0, slots := 0, locals := 85 }) (rw_P (dC, dI) vwCl (RSw cI cZ b0 bR bI bC bY bZ bF bL bN bX bT mcd mwd men mR mI mC mY mZ mF mmd mhi mL mN mfr mX mT mct mtk) [(cI, .int), (cZ, .boolean)] sz [.ref b0]) (va_Qi (fun (r : Int32) (u : Int32 × (Nat → Int32) × (Nat → Int32) × Int32 × Int32) => post r u.1 u.2.1 u.2.2.1 u.2.2.2.1 u.2.2.2.2) (rw_B (dC, dI) vwCl [(cI, .int), (cZ, .boolean)] (va_A (RSw cI cZ b0 bR bI bC bY bZ bF bL bN bX bT mcd mwd men mR mI mC mY mZ mF mmd mhi mL mN mfr mX mT mct mtk) sz) (fun u : Int32 × (Nat → Int32) × (Nat → Int32) × Int32 × Int32 => RSw cI cZ b0 bR bI bC bY bZ bF bL bN bX bT u.1 mwd men mR mI mC mY mZ mF mmd mhi mL mN mfr u.2.1 u.2.2.1 u.2.2.2.1 u.2.2.2.2)) (va_A (RSw cI cZ b0 bR bI bC bY bZ bF bL bN bX bT mcd mwd men mR mI mC mY mZ mF mmd mhi mL mN mfr mX mT mct mtk) sz)) 0 0 (va_A (RSw cI cZ b0 bR bI bC bY bZ bF bL bN bX bT mcd mwd men mR mI mC mY mZ mF mmd mhi mL mN mfr mX mT mct mtk) sz) := by
  refine Met.ofW (cc := c_R_words) (maxL := 1) (ret := (some .int)) (by decide) rfl ?_
  intro p e s m args below meth c s₁ B hml hv
  obtain ⟨rfl, hsz, hP, hK, hD0⟩ := hv
  have hx := B.exec
  have hb := B.bytes
  have hr9 := B.returns
  have hts := atoms_spec (ws := ws_R_words) B.pre
  have hw : ∀ w ∈ WB_, w.before _ s = true := fun w h => hts w (List.mem_cons_of_mem _ h)
  have hown : s.vm.findClass R_R = some m.cls := findClass_of_methodNamed B.named
  have hlocks := B.notSynchronized
  subst hsz
  have hD := hD0.self (sz := s.heap.size)
  generalize hAe : va_A (RSw cI cZ b0 bR bI bC bY bZ bF bL bN bX bT mcd mwd men mR mI mC mY mZ mF mmd mhi mL mN mfr mX mT mct mtk) s.heap.size = A at hD ⊢
  have hA : ∀ q : Nat, s.heap.size ≤ q → A q := fun q h => by rw [← hAe]; exact Or.inr h
  have hS : va_S A s.heap s.heap [] := va_S.rf
  have hl := lv_entry ([.ref b0]) (n := 1) (Nat.le_of_ble_eq_true rfl)
  rw [lg_entry_eq]
  generalize (lg_sl ([.ref b0]) ++ List.replicate (1 - (lg_sl ([.ref b0])).length) Slot.unset).toArray = ls at hl ⊢
  have hl : lv_has ls 1 [(0, .ref b0)] := hl
  unfold wqR_words at h
  refine lv_aload_n hx hb d_R_words_0 rfl (lv_at hl 0 rfl) ?_
  refine lv_iconst (v := (0 : Int32)) hx hb d_R_words_1 (by decide) ?_
  refine va_put (D := (dC, dI)) (ci := 2) (v := .int (0 : Int32)) (ty := .int) (C := R_R) (T := T_R) (N := 18) hx hb hw in_R ty_R ty_R_ok nm_R hown hK hP hD hS 0 rfl rfl 0 (by decide) (hw _ wd_616) (fun _ h9 => h9) rfl (by decide +kernel) rfl rfl (Nat.le_of_ble_eq_true rfl) d_R_words_2 (fun H locs hP hD hS => ?_)
  have hP : va_P (dC, dI) vwCl (RSw cI cZ b0 bR bI bC bY bZ bF bL bN bX bT (0 : Int32) mwd men mR mI mC mY mZ mF mmd mhi mL mN mfr mX mT mct mtk) H := hP
  have hD : va_D A (RSw cI cZ b0 bR bI bC bY bZ bF bL bN bX bT (0 : Int32) mwd men mR mI mC mY mZ mF mmd mhi mL mN mfr mX mT mct mtk) := hD
  refine lv_aload_n hx hb d_R_words_5 rfl (lv_at hl 0 rfl) ?_
  have hFc := va_free (wc := RSw cI cZ b0 bR bI bC bY bZ bF bL bN bX bT (0 : Int32) mwd men mR mI mC mY mZ mF mmd mhi mL mN mfr mX mT mct mtk) hD hS hA [0, 1, 2, 3, 4, 5, 6, 7, 8, 9, 10] rfl
  refine va_callv (va_runV (As := []) (rest := []) ⟨hx, hb, hml, hown, hw⟩ (mR_reach l dC dI cI cZ b0 bR bI bC bY bZ bF bL bN bX bT H.size (0 : Int32) mwd men mR mI mC mY mZ mF mmd mhi mL mN mfr mX mT mct mtk _ h) (cwV 0 hw g_R_95 rfl rfl rfl (by decide +kernel) ⟨Nat.le_of_ble_eq_true rfl, Nat.le_of_ble_eq_true rfl⟩) (rw_PV (ci := 2) (q0 := 0) hK hP hD rfl rfl) rfl rfl hl.1 rfl (lv_room (Nat.le_of_ble_eq_true rfl)) d_R_words_6 ⟨Nat.le_of_ble_eq_true rfl, Nat.le_of_ble_eq_true rfl⟩) hS (fun q _ h => hFc q h) hFc (fun u t H locs ht hvm h hB hz1 hk1 hS => ?_)
  obtain ⟨mX_6, mT_6, mct_6, mtk_6⟩ := u
  obtain ⟨hP, hK1, hD1⟩ := hB
  rw [ht] at hP
  have hD := hD1.weaken (fun _ _ _ q => hFc _ q)
  clear hFc hD1 hK1
  try dsimp only at h
  have hP : va_P (dC, dI) vwCl (RSw cI cZ b0 bR bI bC bY bZ bF bL bN bX bT (0 : Int32) mwd men mR mI mC mY mZ mF mmd mhi mL mN mfr mX_6 mT_6 mct_6 mtk_6) H := hP
  have hD : va_D A (RSw cI cZ b0 bR bI bC bY bZ bF bL bN bX bT (0 : Int32) mwd men mR mI mC mY mZ mF mmd mhi mL mN mfr mX_6 mT_6 mct_6 mtk_6) := hD
  refine lv_aload_n hx hb d_R_words_9 rfl (lv_at hl 0 rfl) ?_
  refine va_get (D := (dC, dI)) (ci := 2) (v := .int mwd) (C := R_R) (T := T_R) (N := 18) hx hb hw in_R hown hK hP 0 rfl rfl 1 (by decide) (hw _ wd_617) (fun _ h9 => h9) rfl d_R_words_10 ?_
  refine lv_aload_n hx hb d_R_words_13 rfl (lv_at hl 0 rfl) ?_
  refine va_get (D := (dC, dI)) (ci := 2) (v := .int mtk_6) (C := R_R) (T := T_R) (N := 18) hx hb hw in_R hown hK hP 0 rfl rfl 17 (by decide) (hw _ wd_633) (fun _ h9 => h9) rfl d_R_words_14 ?_
  refine lv_isub hx hb d_R_words_17 ?_
  exact W.iret (v := mwd - mtk_6) hx hb hr9 (fun t ht hW => ⟨⟨_, ((0 : Int32), mX_6, mT_6, mct_6, mtk_6), rfl, h, by rw [ht]; exact hP, va_K.moved hW.alike hK, hD⟩, hS.F ht⟩) hS.2.2 d_R_words_18
def wqR_entries (mcd : Int32) (men : Int32) (mR : Nat → Int32) (mC : Nat → Int32) (mY : Nat → Int32) (mZ : Nat → Int32) (mF : Nat → Int32) (mL : Nat → Int32) (mN : Nat → Int32) (mX : Nat → Int32) (mT : Nat → Int32) (mct : Int32) (mtk : Int32) (post : Int32 → Int32 → (Nat → Int32) → (Nat → Int32) → Int32 → Int32 → Prop) : Prop :=
  wqR_reach men mR mC mY mZ mF mL mN mX mT mct mtk (fun mX_6 mT_6 mct_6 mtk_6 => post (men - mct_6) (0 : Int32) mX_6 mT_6 mct_6 mtk_6)
set_option maxHeartbeats 4000000 in
set_option maxRecDepth 100000 in
theorem mR_entries (l : Launch) (dC : Nat → ClassId) (dI : Nat → Nat → Nat) (cI : ClassId) (cZ : ClassId) (b0 : Nat) (bR : Nat) (bI : Nat) (bC : Nat) (bY : Nat) (bZ : Nat) (bF : Nat) (bL : Nat) (bN : Nat) (bX : Nat) (bT : Nat) (sz : Nat) (mcd : Int32) (mwd : Int32) (men : Int32) (mR : Nat → Int32) (mI : Nat → Int32) (mC : Nat → Int32) (mY : Nat → Int32) (mZ : Nat → Int32) (mF : Nat → Int32) (mmd : Int32) (mhi : Int32) (mL : Nat → Int32) (mN : Nat → Int32) (mfr : Int32) (mX : Nat → Int32) (mT : Nat → Int32) (mct : Int32) (mtk : Int32) (post : Int32 → Int32 → (Nat → Int32) → (Nat → Int32) → Int32 → Int32 → Prop) (h : wqR_entries mcd men mR mC mY mZ mF mL mN mX mT mct mtk post) : Met l y_R_entries ws_R_entries ({ frames := 4, cells := 0, slots := 0, locals := 85 }) (rw_P (dC, dI) vwCl (RSw cI cZ b0 bR bI bC bY bZ bF bL bN bX bT mcd mwd men mR mI mC mY mZ mF mmd mhi mL mN mfr mX mT mct mtk) [(cI, .int), (cZ, .boolean)] sz [.ref b0]) (va_Qi (fun (r : Int32) (u : Int32 × (Nat → Int32) × (Nat → Int32) × Int32 × Int32) => post r u.1 u.2.1 u.2.2.1 u.2.2.2.1 u.2.2.2.2) (rw_B (dC, dI) vwCl [(cI, .int), (cZ, .boolean)] (va_A (RSw cI cZ b0 bR bI bC bY bZ bF bL bN bX bT mcd mwd men mR mI mC mY mZ mF mmd mhi mL mN mfr mX mT mct mtk) sz) (fun u : Int32 × (Nat → Int32) × (Nat → Int32) × Int32 × Int32 => RSw cI cZ b0 bR bI bC bY bZ bF bL bN bX bT u.1 mwd men mR mI mC mY mZ mF mmd mhi mL mN mfr u.2.1 u.2.2.1 u.2.2.2.1 u.2.2.2.2)) (va_A (RSw cI cZ b0 bR bI bC bY bZ bF bL bN bX bT mcd mwd men mR mI mC mY mZ mF mmd mhi mL mN mfr mX mT mct mtk) sz)) 0 0 (va_A (RSw cI cZ b0 bR bI bC bY bZ bF bL bN bX bT mcd mwd men mR mI mC mY mZ mF mmd mhi mL mN mfr mX mT mct mtk) sz) := by
  refine Met.ofW (cc := c_R_entries) (maxL := 1) (ret := (some .int)) (by decide) rfl ?_
  intro p e s m args below meth c s₁ B hml hv
  obtain ⟨rfl, hsz, hP, hK, hD0⟩ := hv
  have hx := B.exec
  have hb := B.bytes
  have hr9 := B.returns
  have hts := atoms_spec (ws := ws_R_entries) B.pre
  have hw : ∀ w ∈ WB_, w.before _ s = true := fun w h => hts w (List.mem_cons_of_mem _ h)
  have hown : s.vm.findClass R_R = some m.cls := findClass_of_methodNamed B.named
  have hlocks := B.notSynchronized
  subst hsz
  have hD := hD0.self (sz := s.heap.size)
  generalize hAe : va_A (RSw cI cZ b0 bR bI bC bY bZ bF bL bN bX bT mcd mwd men mR mI mC mY mZ mF mmd mhi mL mN mfr mX mT mct mtk) s.heap.size = A at hD ⊢
  have hA : ∀ q : Nat, s.heap.size ≤ q → A q := fun q h => by rw [← hAe]; exact Or.inr h
  have hS : va_S A s.heap s.heap [] := va_S.rf
  have hl := lv_entry ([.ref b0]) (n := 1) (Nat.le_of_ble_eq_true rfl)
  rw [lg_entry_eq]
  generalize (lg_sl ([.ref b0]) ++ List.replicate (1 - (lg_sl ([.ref b0])).length) Slot.unset).toArray = ls at hl ⊢
  have hl : lv_has ls 1 [(0, .ref b0)] := hl
  unfold wqR_entries at h
  refine lv_aload_n hx hb d_R_entries_0 rfl (lv_at hl 0 rfl) ?_
  refine lv_iconst (v := (0 : Int32)) hx hb d_R_entries_1 (by decide) ?_
  refine va_put (D := (dC, dI)) (ci := 2) (v := .int (0 : Int32)) (ty := .int) (C := R_R) (T := T_R) (N := 18) hx hb hw in_R ty_R ty_R_ok nm_R hown hK hP hD hS 0 rfl rfl 0 (by decide) (hw _ wd_616) (fun _ h9 => h9) rfl (by decide +kernel) rfl rfl (Nat.le_of_ble_eq_true rfl) d_R_entries_2 (fun H locs hP hD hS => ?_)
  have hP : va_P (dC, dI) vwCl (RSw cI cZ b0 bR bI bC bY bZ bF bL bN bX bT (0 : Int32) mwd men mR mI mC mY mZ mF mmd mhi mL mN mfr mX mT mct mtk) H := hP
  have hD : va_D A (RSw cI cZ b0 bR bI bC bY bZ bF bL bN bX bT (0 : Int32) mwd men mR mI mC mY mZ mF mmd mhi mL mN mfr mX mT mct mtk) := hD
  refine lv_aload_n hx hb d_R_entries_5 rfl (lv_at hl 0 rfl) ?_
  have hFc := va_free (wc := RSw cI cZ b0 bR bI bC bY bZ bF bL bN bX bT (0 : Int32) mwd men mR mI mC mY mZ mF mmd mhi mL mN mfr mX mT mct mtk) hD hS hA [0, 1, 2, 3, 4, 5, 6, 7, 8, 9, 10] rfl
  refine va_callv (va_runV (As := []) (rest := []) ⟨hx, hb, hml, hown, hw⟩ (mR_reach l dC dI cI cZ b0 bR bI bC bY bZ bF bL bN bX bT H.size (0 : Int32) mwd men mR mI mC mY mZ mF mmd mhi mL mN mfr mX mT mct mtk _ h) (cwV 0 hw g_R_95 rfl rfl rfl (by decide +kernel) ⟨Nat.le_of_ble_eq_true rfl, Nat.le_of_ble_eq_true rfl⟩) (rw_PV (ci := 2) (q0 := 0) hK hP hD rfl rfl) rfl rfl hl.1 rfl (lv_room (Nat.le_of_ble_eq_true rfl)) d_R_entries_6 ⟨Nat.le_of_ble_eq_true rfl, Nat.le_of_ble_eq_true rfl⟩) hS (fun q _ h => hFc q h) hFc (fun u t H locs ht hvm h hB hz1 hk1 hS => ?_)
  obtain ⟨mX_6, mT_6, mct_6, mtk_6⟩ := u
  obtain ⟨hP, hK1, hD1⟩ := hB
  rw [ht] at hP
  have hD := hD1.weaken (fun _ _ _ q => hFc _ q)
  clear hFc hD1 hK1
  try dsimp only at h
  have hP : va_P (dC, dI) vwCl (RSw cI cZ b0 bR bI bC bY bZ bF bL bN bX bT (0 : Int32) mwd men mR mI mC mY mZ mF mmd mhi mL mN mfr mX_6 mT_6 mct_6 mtk_6) H := hP
  have hD : va_D A (RSw cI cZ b0 bR bI bC bY bZ bF bL bN bX bT (0 : Int32) mwd men mR mI mC mY mZ mF mmd mhi mL mN mfr mX_6 mT_6 mct_6 mtk_6) := hD
  refine lv_aload_n hx hb d_R_entries_9 rfl (lv_at hl 0 rfl) ?_
  refine va_get (D := (dC, dI)) (ci := 2) (v := .int men) (C := R_R) (T := T_R) (N := 18) hx hb hw in_R hown hK hP 0 rfl rfl 2 (by decide) (hw _ wd_618) (fun _ h9 => h9) rfl d_R_entries_10 ?_
  refine lv_aload_n hx hb d_R_entries_13 rfl (lv_at hl 0 rfl) ?_
  refine va_get (D := (dC, dI)) (ci := 2) (v := .int mct_6) (C := R_R) (T := T_R) (N := 18) hx hb hw in_R hown hK hP 0 rfl rfl 16 (by decide) (hw _ wd_632) (fun _ h9 => h9) rfl d_R_entries_14 ?_
  refine lv_isub hx hb d_R_entries_17 ?_
  exact W.iret (v := men - mct_6) hx hb hr9 (fun t ht hW => ⟨⟨_, ((0 : Int32), mX_6, mT_6, mct_6, mtk_6), rfl, h, by rw [ht]; exact hP, va_K.moved hW.alike hK, hD⟩, hS.F ht⟩) hS.2.2 d_R_entries_18
def wqR_instance_49 (men : Int32) (mI : Nat → Int32) (mC : Nat → Int32) (mY : Nat → Int32) (mZ : Nat → Int32) (mF : Nat → Int32) (mL : Nat → Int32) (mN : Nat → Int32) (y1_49 : Int32) (y2_49 : Int32) (y3_49 : Int32) (mcdf_49 : Int32) (mRf_49 : Nat → Int32) (mXf_49 : Nat → Int32) (mTf_49 : Nat → Int32) (mctf_49 : Int32) (mtkf_49 : Int32) (post : Int32 → Int32 → (Nat → Int32) → (Nat → Int32) → (Nat → Int32) → Int32 → Int32 → Prop) (kx : Int32 → Int32 → Int32 → Prop) : Nat → Int32 → Int32 → Int32 → Prop
  | 0, _, _, _ => False
  | n + 1, x4_49, x5_49, x6_49 =>
    (y3_49 < x6_49 → (kx x4_49 x5_49 x6_49)) ∧ (¬ (y3_49 < x6_49) → ((x5_49 < 0 → (kx x4_49 x5_49 x6_49)) ∧ (¬ (x5_49 < 0) → ((mctf_49 ≤ y3_49 → (kx x4_49 x5_49 x6_49)) ∧ (¬ (mctf_49 ≤ y3_49) → (vp_in y2_49 32 ∧ (wqR_nextOf mI mC mTf_49 mctf_49 (mRf_49 y2_49.toNatClampNeg) x5_49 (fun r77 => (0 ≤ r77 → (vp_in r77 8192 ∧ (wqR_instance_49 men mI mC mY mZ mF mL mN y1_49 y2_49 y3_49 mcdf_49 mRf_49 mXf_49 mTf_49 mctf_49 mtkf_49 post kx n r77 (mI r77.toNatClampNeg) (x6_49 + (1 : Int32))))) ∧ (¬ (0 ≤ r77) → (wqR_instance_49 men mI mC mY mZ mF mL mN y1_49 y2_49 y3_49 mcdf_49 mRf_49 mXf_49 mTf_49 mctf_49 mtkf_49 post kx n r77 (-1 : Int32) (x6_49 + (1 : Int32))))))))))))
def wqR_instance_27 (men : Int32) (mI : Nat → Int32) (mC : Nat → Int32) (mY : Nat → Int32) (mZ : Nat → Int32) (mF : Nat → Int32) (mL : Nat → Int32) (mN : Nat → Int32) (y1_27 : Int32) (y2_27 : Int32) (y3_27 : Int32) (mcd_27 : Int32) (mR_27 : Nat → Int32) (mX_27 : Nat → Int32) (mT_27 : Nat → Int32) (mct_27 : Int32) (mtk_27 : Int32) (post : Int32 → Int32 → (Nat → Int32) → (Nat → Int32) → (Nat → Int32) → Int32 → Int32 → Prop) : Prop :=
  (mcd_27 ≤ 0 → (wqR_reach men mR_27 mC mY mZ mF mL mN mX_27 mT_27 mct_27 mtk_27 (fun mX_37 mT_37 mct_37 mtk_37 => ∃ k_49, wqR_instance_49 men mI mC mY mZ mF mL mN y1_27 y2_27 y3_27 mcd_27 mR_27 mX_37 mT_37 mct_37 mtk_37 post (fun z4_49 z5_49 z6_49 => (0 ≤ z4_49 → (wqR_valueOf z4_49 (fun r120 => vp_in y1_27 32 ∧ (post z5_49 mcd_27 (upd mR_27 y1_27.toNatClampNeg r120) mX_37 mT_37 mct_37 mtk_37)))) ∧ (¬ (0 ≤ z4_49) → (post (0 : Int32) mcd_27 mR_27 mX_37 mT_37 mct_37 mtk_37))) k_49 (-1 : Int32) (0 : Int32) (0 : Int32)))) ∧ (¬ (mcd_27 ≤ 0) → (post (0 : Int32) mcd_27 mR_27 mX_27 mT_27 mct_27 mtk_27))
def wqR_instance (mcd : Int32) (men : Int32) (mR : Nat → Int32) (mI : Nat → Int32) (mC : Nat → Int32) (mY : Nat → Int32) (mZ : Nat → Int32) (mF : Nat → Int32) (mL : Nat → Int32) (mN : Nat → Int32) (mX : Nat → Int32) (mT : Nat → Int32) (mct : Int32) (mtk : Int32) (a1 : Int32) (a2 : Int32) (a3 : Int32) (post : Int32 → Int32 → (Nat → Int32) → (Nat → Int32) → (Nat → Int32) → Int32 → Int32 → Prop) : Prop :=
  wqR_isRegister a1 (fun r2 => (r2 = 0 → (wqR_instance_27 men mI mC mY mZ mF mL mN a1 a2 a3 (1 : Int32) mR mX mT mct mtk post)) ∧ (¬ (r2 = 0) → (wqR_isRegister a2 (fun r9 => (r9 = 0 → (wqR_instance_27 men mI mC mY mZ mF mL mN a1 a2 a3 (1 : Int32) mR mX mT mct mtk post)) ∧ (¬ (r9 = 0) → ((a3 < 0 → (wqR_instance_27 men mI mC mY mZ mF mL mN a1 a2 a3 (1 : Int32) mR mX mT mct mtk post)) ∧ (¬ (a3 < 0) → (wqR_instance_27 men mI mC mY mZ mF mL mN a1 a2 a3 (0 : Int32) mR mX mT mct mtk post))))))))
set_option maxHeartbeats 4000000 in
set_option maxRecDepth 100000 in
theorem mR_instance (l : Launch) (dC : Nat → ClassId) (dI : Nat → Nat → Nat) (cI : ClassId) (cZ : ClassId) (b0 : Nat) (bR : Nat) (bI : Nat) (bC : Nat) (bY : Nat) (bZ : Nat) (bF : Nat) (bL : Nat) (bN : Nat) (bX : Nat) (bT : Nat) (sz : Nat) (mcd : Int32) (mwd : Int32) (men : Int32) (mR : Nat → Int32) (mI : Nat → Int32) (mC : Nat → Int32) (mY : Nat → Int32) (mZ : Nat → Int32) (mF : Nat → Int32) (mmd : Int32) (mhi : Int32) (mL : Nat → Int32) (mN : Nat → Int32) (mfr : Int32) (mX : Nat → Int32) (mT : Nat → Int32) (mct : Int32) (mtk : Int32) (a1 : Int32) (a2 : Int32) (a3 : Int32) (post : Int32 → Int32 → (Nat → Int32) → (Nat → Int32) → (Nat → Int32) → Int32 → Int32 → Prop) (h : wqR_instance mcd men mR mI mC mY mZ mF mL mN mX mT mct mtk a1 a2 a3 post) : Met l y_R_instance ws_R_instance ({ frames := 4, cells := 0, slots := 0, locals := 85 }) (rw_P (dC, dI) vwCl (RSw cI cZ b0 bR bI bC bY bZ bF bL bN bX bT mcd mwd men mR mI mC mY mZ mF mmd mhi mL mN mfr mX mT mct mtk) [(cI, .int), (cZ, .boolean)] sz [.ref b0, .int a1, .int a2, .int a3]) (va_Qi (fun (r : Int32) (u : Int32 × (Nat → Int32) × (Nat → Int32) × (Nat → Int32) × Int32 × Int32) => post r u.1 u.2.1 u.2.2.1 u.2.2.2.1 u.2.2.2.2.1 u.2.2.2.2.2) (rw_B (dC, dI) vwCl [(cI, .int), (cZ, .boolean)] (va_A (RSw cI cZ b0 bR bI bC bY bZ bF bL bN bX bT mcd mwd men mR mI mC mY mZ mF mmd mhi mL mN mfr mX mT mct mtk) sz) (fun u : Int32 × (Nat → Int32) × (Nat → Int32) × (Nat → Int32) × Int32 × Int32 => RSw cI cZ b0 bR bI bC bY bZ bF bL bN bX bT u.1 mwd men u.2.1 mI mC mY mZ mF mmd mhi mL mN mfr u.2.2.1 u.2.2.2.1 u.2.2.2.2.1 u.2.2.2.2.2)) (va_A (RSw cI cZ b0 bR bI bC bY bZ bF bL bN bX bT mcd mwd men mR mI mC mY mZ mF mmd mhi mL mN mfr mX mT mct mtk) sz)) 0 0 (va_A (RSw cI cZ b0 bR bI bC bY bZ bF bL bN bX bT mcd mwd men mR mI mC mY mZ mF mmd mhi mL mN mfr mX mT mct mtk) sz) := by
  refine Met.ofW (cc := c_R_instance) (maxL := 7) (ret := (some .int)) (by decide) rfl ?_
  intro p e s m args below meth c s₁ B hml hv
  obtain ⟨rfl, hsz, hP, hK, hD0⟩ := hv
  have hx := B.exec
  have hb := B.bytes
  have hr9 := B.returns
  have hts := atoms_spec (ws := ws_R_instance) B.pre
  have hw : ∀ w ∈ WB_, w.before _ s = true := fun w h => hts w (List.mem_cons_of_mem _ h)
  have hown : s.vm.findClass R_R = some m.cls := findClass_of_methodNamed B.named
  have hlocks := B.notSynchronized
  subst hsz
  have hD := hD0.self (sz := s.heap.size)
  generalize hAe : va_A (RSw cI cZ b0 bR bI bC bY bZ bF bL bN bX bT mcd mwd men mR mI mC mY mZ mF mmd mhi mL mN mfr mX mT mct mtk) s.heap.size = A at hD ⊢
  have hA : ∀ q : Nat, s.heap.size ≤ q → A q := fun q h => by rw [← hAe]; exact Or.inr h
  have hS : va_S A s.heap s.heap [] := va_S.rf
  have hl := lv_entry ([.ref b0, .int a1, .int a2, .int a3]) (n := 7) (Nat.le_of_ble_eq_true rfl)
  rw [lg_entry_eq]
  generalize (lg_sl ([.ref b0, .int a1, .int a2, .int a3]) ++ List.replicate (7 - (lg_sl ([.ref b0, .int a1, .int a2, .int a3])).length) Slot.unset).toArray = ls at hl ⊢
  have hl : lv_has ls 7 [(0, .ref b0), (1, .int a1), (2, .int a2), (3, .int a3)] := hl
  have lp_49 : ∀ (y1_49 : Int32) (y2_49 : Int32) (y3_49 : Int32) (mcdf_49 : Int32) (mRf_49 : Nat → Int32) (mXf_49 : Nat → Int32) (mTf_49 : Nat → Int32) (mctf_49 : Int32) (mtkf_49 : Int32) (kx : Int32 → Int32 → Int32 → Prop), (∀ (z4_49 : Int32) (z5_49 : Int32) (z6_49 : Int32) (H : Heap) (locs : List Loc) (ls : Array Slot), va_P (dC, dI) vwCl (RSw cI cZ b0 bR bI bC bY bZ bF bL bN bX bT mcdf_49 mwd men mRf_49 mI mC mY mZ mF mmd mhi mL mN mfr mXf_49 mTf_49 mctf_49 mtkf_49) H → va_D A (RSw cI cZ b0 bR bI bC bY bZ bF bL bN bX bT mcdf_49 mwd men mRf_49 mI mC mY mZ mF mmd mhi mL mN mfr mXf_49 mTf_49 mctf_49 mtkf_49) → va_S A s.heap H locs → lv_has ls 7 [(0, .ref b0), (1, .int y1_49), (2, .int y2_49), (3, .int y3_49), (4, .int z4_49), (5, .int z5_49), (6, .int z6_49)] → kx z4_49 z5_49 z6_49 → W p l e (headSpec ws_R_instance ({ frames := 4, cells := 0, slots := 0, locals := 85 })).room s m ([.ref b0, .int a1, .int a2, .int a3] : List Value).toArray below meth c H locs (0) (0) (MQ below (va_Qi (fun (r : Int32) (u : Int32 × (Nat → Int32) × (Nat → Int32) × (Nat → Int32) × Int32 × Int32) => post r u.1 u.2.1 u.2.2.1 u.2.2.2.1 u.2.2.2.2.1 u.2.2.2.2.2) (rw_B (dC, dI) vwCl [(cI, .int), (cZ, .boolean)] A (fun u : Int32 × (Nat → Int32) × (Nat → Int32) × (Nat → Int32) × Int32 × Int32 => RSw cI cZ b0 bR bI bC bY bZ bF bL bN bX bT u.1 mwd men u.2.1 mI mC mY mZ mF mmd mhi mL mN mfr u.2.2.1 u.2.2.2.1 u.2.2.2.2.1 u.2.2.2.2.2)) A) ([.ref b0, .int a1, .int a2, .int a3] : List Value).toArray s 0 0 A) (F0 m 106 ls [])) → ∀ (n : Nat) (x4_49 : Int32) (x5_49 : Int32) (x6_49 : Int32) (H : Heap) (locs : List Loc) (ls : Array Slot), va_P (dC, dI) vwCl (RSw cI cZ b0 bR bI bC bY bZ bF bL bN bX bT mcdf_49 mwd men mRf_49 mI mC mY mZ mF mmd mhi mL mN mfr mXf_49 mTf_49 mctf_49 mtkf_49) H → va_D A (RSw cI cZ b0 bR bI bC bY bZ bF bL bN bX bT mcdf_49 mwd men mRf_49 mI mC mY mZ mF mmd mhi mL mN mfr mXf_49 mTf_49 mctf_49 mtkf_49) → va_S A s.heap H locs → lv_has ls 7 [(0, .ref b0), (1, .int y1_49), (2, .int y2_49), (3, .int y3_49), (4, .int x4_49), (5, .int x5_49), (6, .int x6_49)] → wqR_instance_49 men mI mC mY mZ mF mL mN y1_49 y2_49 y3_49 mcdf_49 mRf_49 mXf_49 mTf_49 mctf_49 mtkf_49 post kx n x4_49 x5_49 x6_49 → W p l e (headSpec ws_R_instance ({ frames := 4, cells := 0, slots := 0, locals := 85 })).room s m ([.ref b0, .int a1, .int a2, .int a3] : List Value).toArray below meth c H locs (0) (0) (MQ below (va_Qi (fun (r : Int32) (u : Int32 × (Nat → Int32) × (Nat → Int32) × (Nat → Int32) × Int32 × Int32) => post r u.1 u.2.1 u.2.2.1 u.2.2.2.1 u.2.2.2.2.1 u.2.2.2.2.2) (rw_B (dC, dI) vwCl [(cI, .int), (cZ, .boolean)] A (fun u : Int32 × (Nat → Int32) × (Nat → Int32) × (Nat → Int32) × Int32 × Int32 => RSw cI cZ b0 bR bI bC bY bZ bF bL bN bX bT u.1 mwd men u.2.1 mI mC mY mZ mF mmd mhi mL mN mfr u.2.2.1 u.2.2.2.1 u.2.2.2.2.1 u.2.2.2.2.2)) A) ([.ref b0, .int a1, .int a2, .int a3] : List Value).toArray s 0 0 A) (F0 m 49 ls []) := by
    intro y1_49 y2_49 y3_49 mcdf_49 mRf_49 mXf_49 mTf_49 mctf_49 mtkf_49 kx K n
    induction n with
    | zero => intro x4_49 x5_49 x6_49 H locs ls hP hD hS hl h; exact h.elim
    | succ n ih =>
      intro x4_49 x5_49 x6_49 H locs ls hP hD hS hl h
      refine lv_iload hx hb d_R_instance_49 (lv_at hl 6 rfl) ?_
      refine lv_iload_n hx hb d_R_instance_51 rfl (lv_at hl 3 rfl) ?_
      refine lv_icmp_gt (tgt := 106) hx hb d_R_instance_52 (by decide) (fun c_52 => ?_) (fun c_52 => ?_)
      · have h := h.1 c_52
        exact K x4_49 x5_49 x6_49 H locs ls hP hD hS (lv_sub hl [0, 1, 2, 3, 4, 5, 6] rfl) h
      · have h := h.2 c_52
        refine lv_iload hx hb d_R_instance_55 (lv_at hl 5 rfl) ?_
        refine lv_if_lt (tgt := 106) hx hb d_R_instance_57 (by decide) (fun c_57 => ?_) (fun c_57 => ?_)
        · have h := h.1 c_57
          exact K x4_49 x5_49 x6_49 H locs ls hP hD hS (lv_sub hl [0, 1, 2, 3, 4, 5, 6] rfl) h
        · have h := h.2 c_57
          refine lv_iload_n hx hb d_R_instance_60 rfl (lv_at hl 3 rfl) ?_
          refine lv_aload_n hx hb d_R_instance_61 rfl (lv_at hl 0 rfl) ?_
          refine va_get (D := (dC, dI)) (ci := 2) (v := .int mctf_49) (C := R_R) (T := T_R) (N := 18) hx hb hw in_R hown hK hP 0 rfl rfl 16 (by decide) (hw _ wd_632) (fun _ h9 => h9) rfl d_R_instance_62 ?_
          refine lv_icmp_ge (tgt := 106) hx hb d_R_instance_65 (by decide) (fun c_65 => ?_) (fun c_65 => ?_)
          · have h := h.1 c_65
            exact K x4_49 x5_49 x6_49 H locs ls hP hD hS (lv_sub hl [0, 1, 2, 3, 4, 5, 6] rfl) h
          · have h := h.2 c_65
            refine lv_aload_n hx hb d_R_instance_68 rfl (lv_at hl 0 rfl) ?_
            refine lv_aload_n hx hb d_R_instance_69 rfl (lv_at hl 0 rfl) ?_
            refine va_get (D := (dC, dI)) (ci := 2) (v := .ref bR) (C := R_R) (T := T_R) (N := 18) hx hb hw in_R hown hK hP 0 rfl rfl 3 (by decide) (hw _ wd_619) (fun _ h9 => h9) rfl d_R_instance_70 ?_
            refine lv_iload_n hx hb d_R_instance_73 rfl (lv_at hl 2 rfl) ?_
            refine va_iald hx hb hK hP 1 0 rfl rfl h.1 d_R_instance_74 ?_
            have h := h.2
            refine lv_iload hx hb d_R_instance_75 (lv_at hl 5 rfl) ?_
            refine rq_calli (W.runV (As := [.int (mRf_49 y2_49.toNatClampNeg), .int x5_49]) (rest := []) ⟨hx, hb, hml, hown, hw⟩ (mR_nextOf l dC dI cI cZ b0 bR bI bC bY bZ bF bL bN bX bT mcdf_49 mwd men mRf_49 mI mC mY mZ mF mmd mhi mL mN mfr mXf_49 mTf_49 mctf_49 mtkf_49 (mRf_49 y2_49.toNatClampNeg) x5_49 _ h) (cwV 2 hw g_R_136 rfl rfl rfl (by decide +kernel) ⟨Nat.le_of_ble_eq_true rfl, Nat.le_of_ble_eq_true rfl⟩) (ro_PV (ci := 2) (q0 := 0) hK hP rfl rfl) rfl rfl hl.1 rfl (lv_room (Nat.le_of_ble_eq_true rfl)) d_R_instance_77 ⟨Nat.le_of_ble_eq_true rfl, Nat.le_of_ble_eq_true rfl⟩) (fun r77 h => ?_)
            refine lv_istore (lv' := [(4, .int r77), (0, .ref b0), (1, .int y1_49), (2, .int y2_49), (3, .int y3_49), (5, .int x5_49), (6, .int x6_49)]) hx hb d_R_instance_80 hl (by decide) rfl (fun ls hl => ?_)
            refine lv_iload hx hb d_R_instance_82 (lv_at hl 0 rfl) ?_
            refine lv_if_ge (tgt := 91) hx hb d_R_instance_84 (by decide) (fun c_84 => ?_) (fun c_84 => ?_)
            · have h := h.1 c_84
              refine lv_aload_n hx hb d_R_instance_91 rfl (lv_at hl 1 rfl) ?_
              refine va_get (D := (dC, dI)) (ci := 2) (v := .ref bI) (C := R_R) (T := T_R) (N := 18) hx hb hw in_R hown hK hP 0 rfl rfl 4 (by decide) (hw _ wd_620) (fun _ h9 => h9) rfl d_R_instance_92 ?_
              refine lv_iload hx hb d_R_instance_95 (lv_at hl 0 rfl) ?_
              refine va_iald hx hb hK hP 2 0 rfl rfl h.1 d_R_instance_97 ?_
              have h := h.2
              refine lv_istore (lv' := [(5, .int (mI r77.toNatClampNeg)), (4, .int r77), (0, .ref b0), (1, .int y1_49), (2, .int y2_49), (3, .int y3_49), (6, .int x6_49)]) hx hb d_R_instance_98 hl (by decide) rfl (fun ls hl => ?_)
              refine lv_iinc (v := x6_49 + (1 : Int32)) (lv' := [(6, .int (x6_49 + (1 : Int32))), (5, .int (mI r77.toNatClampNeg)), (4, .int r77), (0, .ref b0), (1, .int y1_49), (2, .int y2_49), (3, .int y3_49)]) hx hb d_R_instance_100 hl (k := 6) rfl rfl (by decide) rfl (fun ls hl => ?_)
              refine lv_goto (tgt := 49) hx hb d_R_instance_103 (by decide) ?_
              exact ih r77 (mI r77.toNatClampNeg) (x6_49 + (1 : Int32)) H locs ls hP hD hS (lv_sub hl [3, 4, 5, 6, 2, 1, 0] rfl) h
            · have h := h.2 c_84
              refine lv_iconst (v := (-1 : Int32)) hx hb d_R_instance_87 (by decide) ?_
              refine lv_goto (tgt := 98) hx hb d_R_instance_88 (by decide) ?_
              refine lv_istore (lv' := [(5, .int (-1 : Int32)), (4, .int r77), (0, .ref b0), (1, .int y1_49), (2, .int y2_49), (3, .int y3_49), (6, .int x6_49)]) hx hb d_R_instance_98 hl (by decide) rfl (fun ls hl => ?_)
              refine lv_iinc (v := x6_49 + (1 : Int32)) (lv' := [(6, .int (x6_49 + (1 : Int32))), (5, .int (-1 : Int32)), (4, .int r77), (0, .ref b0), (1, .int y1_49), (2, .int y2_49), (3, .int y3_49)]) hx hb d_R_instance_100 hl (k := 6) rfl rfl (by decide) rfl (fun ls hl => ?_)
              refine lv_goto (tgt := 49) hx hb d_R_instance_103 (by decide) ?_
              exact ih r77 (-1 : Int32) (x6_49 + (1 : Int32)) H locs ls hP hD hS (lv_sub hl [3, 4, 5, 6, 2, 1, 0] rfl) h
  have lp_27 : ∀ (y1_27 : Int32) (y2_27 : Int32) (y3_27 : Int32) (mcd_27 : Int32) (mR_27 : Nat → Int32) (mX_27 : Nat → Int32) (mT_27 : Nat → Int32) (mct_27 : Int32) (mtk_27 : Int32) (H : Heap) (locs : List Loc) (ls : Array Slot), va_P (dC, dI) vwCl (RSw cI cZ b0 bR bI bC bY bZ bF bL bN bX bT mcd_27 mwd men mR_27 mI mC mY mZ mF mmd mhi mL mN mfr mX_27 mT_27 mct_27 mtk_27) H → va_D A (RSw cI cZ b0 bR bI bC bY bZ bF bL bN bX bT mcd_27 mwd men mR_27 mI mC mY mZ mF mmd mhi mL mN mfr mX_27 mT_27 mct_27 mtk_27) → va_S A s.heap H locs → lv_has ls 7 [(0, .ref b0), (1, .int y1_27), (2, .int y2_27), (3, .int y3_27)] → wqR_instance_27 men mI mC mY mZ mF mL mN y1_27 y2_27 y3_27 mcd_27 mR_27 mX_27 mT_27 mct_27 mtk_27 post → W p l e (headSpec ws_R_instance ({ frames := 4, cells := 0, slots := 0, locals := 85 })).room s m ([.ref b0, .int a1, .int a2, .int a3] : List Value).toArray below meth c H locs (0) (0) (MQ below (va_Qi (fun (r : Int32) (u : Int32 × (Nat → Int32) × (Nat → Int32) × (Nat → Int32) × Int32 × Int32) => post r u.1 u.2.1 u.2.2.1 u.2.2.2.1 u.2.2.2.2.1 u.2.2.2.2.2) (rw_B (dC, dI) vwCl [(cI, .int), (cZ, .boolean)] A (fun u : Int32 × (Nat → Int32) × (Nat → Int32) × (Nat → Int32) × Int32 × Int32 => RSw cI cZ b0 bR bI bC bY bZ bF bL bN bX bT u.1 mwd men u.2.1 mI mC mY mZ mF mmd mhi mL mN mfr u.2.2.1 u.2.2.2.1 u.2.2.2.2.1 u.2.2.2.2.2)) A) ([.ref b0, .int a1, .int a2, .int a3] : List Value).toArray s 0 0 A) (F0 m 27 ls []) := by
    intro y1_27 y2_27 y3_27 mcd_27 mR_27 mX_27 mT_27 mct_27 mtk_27 H locs ls hP hD hS hl h
    unfold wqR_instance_27 at h
    refine lv_aload_n hx hb d_R_instance_27 rfl (lv_at hl 0 rfl) ?_
    refine va_get (D := (dC, dI)) (ci := 2) (v := .int mcd_27) (C := R_R) (T := T_R) (N := 18) hx hb hw in_R hown hK hP 0 rfl rfl 0 (by decide) (hw _ wd_616) (fun _ h9 => h9) rfl d_R_instance_28 ?_
    refine lv_if_le (tgt := 36) hx hb d_R_instance_31 (by decide) (fun c_31 => ?_) (fun c_31 => ?_)
    · have h := h.1 c_31
      refine lv_aload_n hx hb d_R_instance_36 rfl (lv_at hl 0 rfl) ?_
      have hFc := va_free (wc := RSw cI cZ b0 bR bI bC bY bZ bF bL bN bX bT mcd_27 mwd men mR_27 mI mC mY mZ mF mmd mhi mL mN mfr mX_27 mT_27 mct_27 mtk_27) hD hS hA [0, 1, 2, 3, 4, 5, 6, 7, 8, 9, 10] rfl
      refine va_callv (va_runV (As := []) (rest := []) ⟨hx, hb, hml, hown, hw⟩ (mR_reach l dC dI cI cZ b0 bR bI bC bY bZ bF bL bN bX bT H.size mcd_27 mwd men mR_27 mI mC mY mZ mF mmd mhi mL mN mfr mX_27 mT_27 mct_27 mtk_27 _ h) (cwV 0 hw g_R_95 rfl rfl rfl (by decide +kernel) ⟨Nat.le_of_ble_eq_true rfl, Nat.le_of_ble_eq_true rfl⟩) (rw_PV (ci := 2) (q0 := 0) hK hP hD rfl rfl) rfl rfl hl.1 rfl (lv_room (Nat.le_of_ble_eq_true rfl)) d_R_instance_37 ⟨Nat.le_of_ble_eq_true rfl, Nat.le_of_ble_eq_true rfl⟩) hS (fun q _ h => hFc q h) hFc (fun u t H locs ht hvm h hB hz1 hk1 hS => ?_)
      obtain ⟨mX_37, mT_37, mct_37, mtk_37⟩ := u
      obtain ⟨hP, hK1, hD1⟩ := hB
      rw [ht] at hP
      have hD := hD1.weaken (fun _ _ _ q => hFc _ q)
      clear hFc hD1 hK1
      try dsimp only at h
      have hP : va_P (dC, dI) vwCl (RSw cI cZ b0 bR bI bC bY bZ bF bL bN bX bT mcd_27 mwd men mR_27 mI mC mY mZ mF mmd mhi mL mN mfr mX_37 mT_37 mct_37 mtk_37) H := hP
      have hD : va_D A (RSw cI cZ b0 bR bI bC bY bZ bF bL bN bX bT mcd_27 mwd men mR_27 mI mC mY mZ mF mmd mhi mL mN mfr mX_37 mT_37 mct_37 mtk_37) := hD
      refine lv_iconst (v := (-1 : Int32)) hx hb d_R_instance_40 (by decide) ?_
      refine lv_istore (lv' := [(4, .int (-1 : Int32)), (0, .ref b0), (1, .int y1_27), (2, .int y2_27), (3, .int y3_27)]) hx hb d_R_instance_41 hl (by decide) rfl (fun ls hl => ?_)
      refine lv_iconst (v := (0 : Int32)) hx hb d_R_instance_43 (by decide) ?_
      refine lv_istore (lv' := [(5, .int (0 : Int32)), (4, .int (-1 : Int32)), (0, .ref b0), (1, .int y1_27), (2, .int y2_27), (3, .int y3_27)]) hx hb d_R_instance_44 hl (by decide) rfl (fun ls hl => ?_)
      refine lv_iconst (v := (0 : Int32)) hx hb d_R_instance_46 (by decide) ?_
      refine lv_istore (lv' := [(6, .int (0 : Int32)), (5, .int (0 : Int32)), (4, .int (-1 : Int32)), (0, .ref b0), (1, .int y1_27), (2, .int y2_27), (3, .int y3_27)]) hx hb d_R_instance_47 hl (by decide) rfl (fun ls hl => ?_)
      obtain ⟨n_49, h⟩ := h
      refine lp_49 y1_27 y2_27 y3_27 mcd_27 mR_27 mX_37 mT_37 mct_37 mtk_37 _ (fun z4_49 z5_49 z6_49 H locs ls hP hD hS hl h => ?_) n_49 (-1 : Int32) (0 : Int32) (0 : Int32) H locs ls hP hD hS (lv_sub hl [3, 4, 5, 6, 2, 1, 0] rfl) h
      refine lv_iload hx hb d_R_instance_106 (lv_at hl 4 rfl) ?_
      refine lv_if_ge (tgt := 113) hx hb d_R_instance_108 (by decide) (fun c_108 => ?_) (fun c_108 => ?_)
      · have h := h.1 c_108
        refine lv_aload_n hx hb d_R_instance_113 rfl (lv_at hl 0 rfl) ?_
        refine va_get (D := (dC, dI)) (ci := 2) (v := .ref bR) (C := R_R) (T := T_R) (N := 18) hx hb hw in_R hown hK hP 0 rfl rfl 3 (by decide) (hw _ wd_619) (fun _ h9 => h9) rfl d_R_instance_114 ?_
        refine lv_iload_n hx hb d_R_instance_117 rfl (lv_at hl 1 rfl) ?_
        refine lv_iload hx hb d_R_instance_118 (lv_at hl 4 rfl) ?_
        refine rq_calli (W.runS (As := [.int z4_49]) (rest := [.int y1_27, .ref bR]) ⟨hx, hb, hml, hown, hw⟩ (mR_valueOf l z4_49 _ h) (va_cwS 1 hw g_R_111 rfl rfl rfl (by decide +kernel) ⟨Nat.le_of_ble_eq_true rfl, Nat.le_of_ble_eq_true rfl⟩) preEq rfl rfl hl.1 rfl (lv_room (Nat.le_of_ble_eq_true rfl)) d_R_instance_120 ⟨Nat.le_of_ble_eq_true rfl, Nat.le_of_ble_eq_true rfl⟩) (fun r120 h => ?_)
        refine va_iast hx hb hK hP hD hS 1 0 rfl rfl h.1 d_R_instance_123 (fun H locs hP hD hS => ?_)
        have hP : va_P (dC, dI) vwCl (RSw cI cZ b0 bR bI bC bY bZ bF bL bN bX bT mcd_27 mwd men (upd mR_27 y1_27.toNatClampNeg r120) mI mC mY mZ mF mmd mhi mL mN mfr mX_37 mT_37 mct_37 mtk_37) H := hP
        have hD : va_D A (RSw cI cZ b0 bR bI bC bY bZ bF bL bN bX bT mcd_27 mwd men (upd mR_27 y1_27.toNatClampNeg r120) mI mC mY mZ mF mmd mhi mL mN mfr mX_37 mT_37 mct_37 mtk_37) := hD
        have h := h.2
        refine lv_iload hx hb d_R_instance_124 (lv_at hl 5 rfl) ?_
        exact W.iret (v := z5_49) hx hb hr9 (fun t ht hW => ⟨⟨_, (mcd_27, upd mR_27 y1_27.toNatClampNeg r120, mX_37, mT_37, mct_37, mtk_37), rfl, h, by rw [ht]; exact hP, va_K.moved hW.alike hK, hD⟩, hS.F ht⟩) hS.2.2 d_R_instance_126
      · have h := h.2 c_108
        refine lv_iconst (v := (0 : Int32)) hx hb d_R_instance_111 (by decide) ?_
        exact W.iret (v := (0 : Int32)) hx hb hr9 (fun t ht hW => ⟨⟨_, (mcd_27, mR_27, mX_37, mT_37, mct_37, mtk_37), rfl, h, by rw [ht]; exact hP, va_K.moved hW.alike hK, hD⟩, hS.F ht⟩) hS.2.2 d_R_instance_112
    · have h := h.2 c_31
      refine lv_iconst (v := (0 : Int32)) hx hb d_R_instance_34 (by decide) ?_
      exact W.iret (v := (0 : Int32)) hx hb hr9 (fun t ht hW => ⟨⟨_, (mcd_27, mR_27, mX_27, mT_27, mct_27, mtk_27), rfl, h, by rw [ht]; exact hP, va_K.moved hW.alike hK, hD⟩, hS.F ht⟩) hS.2.2 d_R_instance_35
  unfold wqR_instance at h
  refine lv_aload_n hx hb d_R_instance_0 rfl (lv_at hl 0 rfl) ?_
  refine lv_iload_n hx hb d_R_instance_1 rfl (lv_at hl 1 rfl) ?_
  refine rq_calli (W.runS (As := [.int a1]) (rest := [.ref b0]) ⟨hx, hb, hml, hown, hw⟩ (mR_isRegister l a1 _ h) (va_cwS 1 hw g_R_52 rfl rfl rfl (by decide +kernel) ⟨Nat.le_of_ble_eq_true rfl, Nat.le_of_ble_eq_true rfl⟩) preEq rfl rfl hl.1 rfl (lv_room (Nat.le_of_ble_eq_true rfl)) d_R_instance_2 ⟨Nat.le_of_ble_eq_true rfl, Nat.le_of_ble_eq_true rfl⟩) (fun r2 h => ?_)
  refine lv_if_eq (tgt := 23) hx hb d_R_instance_5 (by decide) (fun c_5 => ?_) (fun c_5 => ?_)
  · have h := h.1 c_5
    refine lv_iconst (v := (1 : Int32)) hx hb d_R_instance_23 (by decide) ?_
    refine va_put (D := (dC, dI)) (ci := 2) (v := .int (1 : Int32)) (ty := .int) (C := R_R) (T := T_R) (N := 18) hx hb hw in_R ty_R ty_R_ok nm_R hown hK hP hD hS 0 rfl rfl 0 (by decide) (hw _ wd_616) (fun _ h9 => h9) rfl (by decide +kernel) rfl rfl (Nat.le_of_ble_eq_true rfl) d_R_instance_24 (fun H locs hP hD hS => ?_)
    have hP : va_P (dC, dI) vwCl (RSw cI cZ b0 bR bI bC bY bZ bF bL bN bX bT (1 : Int32) mwd men mR mI mC mY mZ mF mmd mhi mL mN mfr mX mT mct mtk) H := hP
    have hD : va_D A (RSw cI cZ b0 bR bI bC bY bZ bF bL bN bX bT (1 : Int32) mwd men mR mI mC mY mZ mF mmd mhi mL mN mfr mX mT mct mtk) := hD
    exact lp_27 a1 a2 a3 (1 : Int32) mR mX mT mct mtk H locs ls hP hD hS (lv_sub hl [0, 1, 2, 3] rfl) h
  · have h := h.2 c_5
    refine lv_iload_n hx hb d_R_instance_8 rfl (lv_at hl 2 rfl) ?_
    refine rq_calli (W.runS (As := [.int a2]) (rest := [.ref b0]) ⟨hx, hb, hml, hown, hw⟩ (mR_isRegister l a2 _ h) (va_cwS 1 hw g_R_52 rfl rfl rfl (by decide +kernel) ⟨Nat.le_of_ble_eq_true rfl, Nat.le_of_ble_eq_true rfl⟩) preEq rfl rfl hl.1 rfl (lv_room (Nat.le_of_ble_eq_true rfl)) d_R_instance_9 ⟨Nat.le_of_ble_eq_true rfl, Nat.le_of_ble_eq_true rfl⟩) (fun r9 h => ?_)
    refine lv_if_eq (tgt := 23) hx hb d_R_instance_12 (by decide) (fun c_12 => ?_) (fun c_12 => ?_)
    · have h := h.1 c_12
      refine lv_iconst (v := (1 : Int32)) hx hb d_R_instance_23 (by decide) ?_
      refine va_put (D := (dC, dI)) (ci := 2) (v := .int (1 : Int32)) (ty := .int) (C := R_R) (T := T_R) (N := 18) hx hb hw in_R ty_R ty_R_ok nm_R hown hK hP hD hS 0 rfl rfl 0 (by decide) (hw _ wd_616) (fun _ h9 => h9) rfl (by decide +kernel) rfl rfl (Nat.le_of_ble_eq_true rfl) d_R_instance_24 (fun H locs hP hD hS => ?_)
      have hP : va_P (dC, dI) vwCl (RSw cI cZ b0 bR bI bC bY bZ bF bL bN bX bT (1 : Int32) mwd men mR mI mC mY mZ mF mmd mhi mL mN mfr mX mT mct mtk) H := hP
      have hD : va_D A (RSw cI cZ b0 bR bI bC bY bZ bF bL bN bX bT (1 : Int32) mwd men mR mI mC mY mZ mF mmd mhi mL mN mfr mX mT mct mtk) := hD
      exact lp_27 a1 a2 a3 (1 : Int32) mR mX mT mct mtk H locs ls hP hD hS (lv_sub hl [0, 1, 2, 3] rfl) h
    · have h := h.2 c_12
      refine lv_iload_n hx hb d_R_instance_15 rfl (lv_at hl 3 rfl) ?_
      refine lv_if_lt (tgt := 23) hx hb d_R_instance_16 (by decide) (fun c_16 => ?_) (fun c_16 => ?_)
      · have h := h.1 c_16
        refine lv_iconst (v := (1 : Int32)) hx hb d_R_instance_23 (by decide) ?_
        refine va_put (D := (dC, dI)) (ci := 2) (v := .int (1 : Int32)) (ty := .int) (C := R_R) (T := T_R) (N := 18) hx hb hw in_R ty_R ty_R_ok nm_R hown hK hP hD hS 0 rfl rfl 0 (by decide) (hw _ wd_616) (fun _ h9 => h9) rfl (by decide +kernel) rfl rfl (Nat.le_of_ble_eq_true rfl) d_R_instance_24 (fun H locs hP hD hS => ?_)
        have hP : va_P (dC, dI) vwCl (RSw cI cZ b0 bR bI bC bY bZ bF bL bN bX bT (1 : Int32) mwd men mR mI mC mY mZ mF mmd mhi mL mN mfr mX mT mct mtk) H := hP
        have hD : va_D A (RSw cI cZ b0 bR bI bC bY bZ bF bL bN bX bT (1 : Int32) mwd men mR mI mC mY mZ mF mmd mhi mL mN mfr mX mT mct mtk) := hD
        exact lp_27 a1 a2 a3 (1 : Int32) mR mX mT mct mtk H locs ls hP hD hS (lv_sub hl [0, 1, 2, 3] rfl) h
      · have h := h.2 c_16
        refine lv_iconst (v := (0 : Int32)) hx hb d_R_instance_19 (by decide) ?_
        refine lv_goto (tgt := 24) hx hb d_R_instance_20 (by decide) ?_
        refine va_put (D := (dC, dI)) (ci := 2) (v := .int (0 : Int32)) (ty := .int) (C := R_R) (T := T_R) (N := 18) hx hb hw in_R ty_R ty_R_ok nm_R hown hK hP hD hS 0 rfl rfl 0 (by decide) (hw _ wd_616) (fun _ h9 => h9) rfl (by decide +kernel) rfl rfl (Nat.le_of_ble_eq_true rfl) d_R_instance_24 (fun H locs hP hD hS => ?_)
        have hP : va_P (dC, dI) vwCl (RSw cI cZ b0 bR bI bC bY bZ bF bL bN bX bT (0 : Int32) mwd men mR mI mC mY mZ mF mmd mhi mL mN mfr mX mT mct mtk) H := hP
        have hD : va_D A (RSw cI cZ b0 bR bI bC bY bZ bF bL bN bX bT (0 : Int32) mwd men mR mI mC mY mZ mF mmd mhi mL mN mfr mX mT mct mtk) := hD
        exact lp_27 a1 a2 a3 (0 : Int32) mR mX mT mct mtk H locs ls hP hD hS (lv_sub hl [0, 1, 2, 3] rfl) h
def wqR_owners_122 (men : Int32) (mR : Nat → Int32) (mC : Nat → Int32) (mY : Nat → Int32) (mZ : Nat → Int32) (mF : Nat → Int32) (mL : Nat → Int32) (mN : Nat → Int32) (y1_122 : Int32) (y2_122 : Int32) (y4_122 : Int32) (y5_122 : Int32) (mcdf_122 : Int32) (mXf_122 : Nat → Int32) (mTf_122 : Nat → Int32) (mctf_122 : Int32) (mtkf_122 : Int32) (post : Int32 → Int32 → (Nat → Int32) → (Nat → Int32) → Int32 → Int32 → Prop) (kx : Int32 → Int32 → Prop) : Nat → Int32 → Int32 → Prop
  | 0, _, _ => False
  | n + 1, x3_122, x6_122 =>
    (x6_122 < 0 → (kx x3_122 x6_122)) ∧ (¬ (x6_122 < 0) → (vp_in y5_122 8192 ∧ (((mY y5_122.toNatClampNeg) = 0 → (vp_in x6_122 65536 ∧ (((mL x6_122.toNatClampNeg) = y2_122 → (vp_in x6_122 65536 ∧ (wqR_owners_122 men mR mC mY mZ mF mL mN y1_122 y2_122 y4_122 y5_122 mcdf_122 mXf_122 mTf_122 mctf_122 mtkf_122 post kx n (x3_122 + (1 : Int32)) (mN x6_122.toNatClampNeg)))) ∧ (¬ ((mL x6_122.toNatClampNeg) = y2_122) → (vp_in x6_122 65536 ∧ (wqR_owners_122 men mR mC mY mZ mF mL mN y1_122 y2_122 y4_122 y5_122 mcdf_122 mXf_122 mTf_122 mctf_122 mtkf_122 post kx n x3_122 (mN x6_122.toNatClampNeg))))))) ∧ (¬ ((mY y5_122.toNatClampNeg) = 0) → (kx x3_122 x6_122)))))
def wqR_owners_76 (men : Int32) (mR : Nat → Int32) (mC : Nat → Int32) (mY : Nat → Int32) (mZ : Nat → Int32) (mF : Nat → Int32) (mL : Nat → Int32) (mN : Nat → Int32) (y1_76 : Int32) (y2_76 : Int32) (mcdf_76 : Int32) (mXf_76 : Nat → Int32) (mTf_76 : Nat → Int32) (mctf_76 : Int32) (mtkf_76 : Int32) (post : Int32 → Int32 → (Nat → Int32) → (Nat → Int32) → Int32 → Int32 → Prop) (kx : Int32 → Int32 → Prop) : Nat → Int32 → Int32 → Prop
  | 0, _, _ => False
  | n + 1, x3_76, x4_76 =>
    (mctf_76 ≤ x4_76 → (kx x3_76 x4_76)) ∧ (¬ (mctf_76 ≤ x4_76) → (vp_in x4_76 8192 ∧ (vp_in (mTf_76 x4_76.toNatClampNeg) 8192 ∧ (((mC (mTf_76 x4_76.toNatClampNeg).toNatClampNeg) = y2_76 → (vp_in (mTf_76 x4_76.toNatClampNeg) 8192 ∧ (∃ k_122, wqR_owners_122 men mR mC mY mZ mF mL mN y1_76 y2_76 x4_76 (mTf_76 x4_76.toNatClampNeg) mcdf_76 mXf_76 mTf_76 mctf_76 mtkf_76 post (fun z3_122 z6_122 => wqR_owners_76 men mR mC mY mZ mF mL mN y1_76 y2_76 mcdf_76 mXf_76 mTf_76 mctf_76 mtkf_76 post kx n z3_122 (x4_76 + (1 : Int32))) k_122 (x3_76 + (1 : Int32)) (mF (mTf_76 x4_76.toNatClampNeg).toNatClampNeg)))) ∧ (¬ ((mC (mTf_76 x4_76.toNatClampNeg).toNatClampNeg) = y2_76) → (vp_in (mTf_76 x4_76.toNatClampNeg) 8192 ∧ (∃ k_122, wqR_owners_122 men mR mC mY mZ mF mL mN y1_76 y2_76 x4_76 (mTf_76 x4_76.toNatClampNeg) mcdf_76 mXf_76 mTf_76 mctf_76 mtkf_76 post (fun z3_122 z6_122 => wqR_owners_76 men mR mC mY mZ mF mL mN y1_76 y2_76 mcdf_76 mXf_76 mTf_76 mctf_76 mtkf_76 post kx n z3_122 (x4_76 + (1 : Int32))) k_122 x3_76 (mF (mTf_76 x4_76.toNatClampNeg).toNatClampNeg))))))))
def wqR_owners_41 (men : Int32) (mR : Nat → Int32) (mC : Nat → Int32) (mY : Nat → Int32) (mZ : Nat → Int32) (mF : Nat → Int32) (mL : Nat → Int32) (mN : Nat → Int32) (y1_41 : Int32) (y2_41 : Int32) (mcdf_41 : Int32) (mXf_41 : Nat → Int32) (mTf_41 : Nat → Int32) (mctf_41 : Int32) (mtkf_41 : Int32) (post : Int32 → Int32 → (Nat → Int32) → (Nat → Int32) → Int32 → Int32 → Prop) (kx : Int32 → Int32 → Prop) : Nat → Int32 → Int32 → Prop
  | 0, _, _ => False
  | n + 1, x3_41, x4_41 =>
    ((32 : Int32) ≤ x4_41 → (kx x3_41 x4_41)) ∧ (¬ ((32 : Int32) ≤ x4_41) → (vp_in x4_41 32 ∧ (((mR x4_41.toNatClampNeg) = y2_41 → (wqR_owners_41 men mR mC mY mZ mF mL mN y1_41 y2_41 mcdf_41 mXf_41 mTf_41 mctf_41 mtkf_41 post kx n (x3_41 + (1 : Int32)) (x4_41 + (1 : Int32)))) ∧ (¬ ((mR x4_41.toNatClampNeg) = y2_41) → (wqR_owners_41 men mR mC mY mZ mF mL mN y1_41 y2_41 mcdf_41 mXf_41 mTf_41 mctf_41 mtkf_41 post kx n x3_41 (x4_41 + (1 : Int32)))))))
def wqR_owners_16 (men : Int32) (mR : Nat → Int32) (mC : Nat → Int32) (mY : Nat → Int32) (mZ : Nat → Int32) (mF : Nat → Int32) (mL : Nat → Int32) (mN : Nat → Int32) (y1_16 : Int32) (mcd_16 : Int32) (mX_16 : Nat → Int32) (mT_16 : Nat → Int32) (mct_16 : Int32) (mtk_16 : Int32) (post : Int32 → Int32 → (Nat → Int32) → (Nat → Int32) → Int32 → Int32 → Prop) : Prop :=
  (mcd_16 ≤ 0 → (wqR_reach men mR mC mY mZ mF mL mN mX_16 mT_16 mct_16 mtk_16 (fun mX_26 mT_26 mct_26 mtk_26 => vp_in y1_16 32 ∧ (∃ k_41, wqR_owners_41 men mR mC mY mZ mF mL mN y1_16 (mR y1_16.toNatClampNeg) mcd_16 mX_26 mT_26 mct_26 mtk_26 post (fun z3_41 z4_41 => ∃ k_76, wqR_owners_76 men mR mC mY mZ mF mL mN y1_16 (mR y1_16.toNatClampNeg) mcd_16 mX_26 mT_26 mct_26 mtk_26 post (fun z3_76 z4_76 => post z3_76 mcd_16 mX_26 mT_26 mct_26 mtk_26) k_76 z3_41 (0 : Int32)) k_41 (0 : Int32) (0 : Int32))))) ∧ (¬ (mcd_16 ≤ 0) → (post (0 : Int32) mcd_16 mX_16 mT_16 mct_16 mtk_16))
def wqR_owners (mcd : Int32) (men : Int32) (mR : Nat → Int32) (mC : Nat → Int32) (mY : Nat → Int32) (mZ : Nat → Int32) (mF : Nat → Int32) (mL : Nat → Int32) (mN : Nat → Int32) (mX : Nat → Int32) (mT : Nat → Int32) (mct : Int32) (mtk : Int32) (a1 : Int32) (post : Int32 → Int32 → (Nat → Int32) → (Nat → Int32) → Int32 → Int32 → Prop) : Prop :=
  wqR_isRegister a1 (fun r2 => (r2 = 0 → (wqR_owners_16 men mR mC mY mZ mF mL mN a1 (1 : Int32) mX mT mct mtk post)) ∧ (¬ (r2 = 0) → (wqR_owners_16 men mR mC mY mZ mF mL mN a1 (0 : Int32) mX mT mct mtk post)))
set_option maxHeartbeats 4000000 in
set_option maxRecDepth 100000 in
theorem mR_owners (l : Launch) (dC : Nat → ClassId) (dI : Nat → Nat → Nat) (cI : ClassId) (cZ : ClassId) (b0 : Nat) (bR : Nat) (bI : Nat) (bC : Nat) (bY : Nat) (bZ : Nat) (bF : Nat) (bL : Nat) (bN : Nat) (bX : Nat) (bT : Nat) (sz : Nat) (mcd : Int32) (mwd : Int32) (men : Int32) (mR : Nat → Int32) (mI : Nat → Int32) (mC : Nat → Int32) (mY : Nat → Int32) (mZ : Nat → Int32) (mF : Nat → Int32) (mmd : Int32) (mhi : Int32) (mL : Nat → Int32) (mN : Nat → Int32) (mfr : Int32) (mX : Nat → Int32) (mT : Nat → Int32) (mct : Int32) (mtk : Int32) (a1 : Int32) (post : Int32 → Int32 → (Nat → Int32) → (Nat → Int32) → Int32 → Int32 → Prop) (h : wqR_owners mcd men mR mC mY mZ mF mL mN mX mT mct mtk a1 post) : Met l y_R_owners ws_R_owners ({ frames := 4, cells := 0, slots := 0, locals := 85 }) (rw_P (dC, dI) vwCl (RSw cI cZ b0 bR bI bC bY bZ bF bL bN bX bT mcd mwd men mR mI mC mY mZ mF mmd mhi mL mN mfr mX mT mct mtk) [(cI, .int), (cZ, .boolean)] sz [.ref b0, .int a1]) (va_Qi (fun (r : Int32) (u : Int32 × (Nat → Int32) × (Nat → Int32) × Int32 × Int32) => post r u.1 u.2.1 u.2.2.1 u.2.2.2.1 u.2.2.2.2) (rw_B (dC, dI) vwCl [(cI, .int), (cZ, .boolean)] (va_A (RSw cI cZ b0 bR bI bC bY bZ bF bL bN bX bT mcd mwd men mR mI mC mY mZ mF mmd mhi mL mN mfr mX mT mct mtk) sz) (fun u : Int32 × (Nat → Int32) × (Nat → Int32) × Int32 × Int32 => RSw cI cZ b0 bR bI bC bY bZ bF bL bN bX bT u.1 mwd men mR mI mC mY mZ mF mmd mhi mL mN mfr u.2.1 u.2.2.1 u.2.2.2.1 u.2.2.2.2)) (va_A (RSw cI cZ b0 bR bI bC bY bZ bF bL bN bX bT mcd mwd men mR mI mC mY mZ mF mmd mhi mL mN mfr mX mT mct mtk) sz)) 0 0 (va_A (RSw cI cZ b0 bR bI bC bY bZ bF bL bN bX bT mcd mwd men mR mI mC mY mZ mF mmd mhi mL mN mfr mX mT mct mtk) sz) := by
  refine Met.ofW (cc := c_R_owners) (maxL := 7) (ret := (some .int)) (by decide) rfl ?_
  intro p e s m args below meth c s₁ B hml hv
  obtain ⟨rfl, hsz, hP, hK, hD0⟩ := hv
  have hx := B.exec
  have hb := B.bytes
  have hr9 := B.returns
  have hts := atoms_spec (ws := ws_R_owners) B.pre
  have hw : ∀ w ∈ WB_, w.before _ s = true := fun w h => hts w (List.mem_cons_of_mem _ h)
  have hown : s.vm.findClass R_R = some m.cls := findClass_of_methodNamed B.named
  have hlocks := B.notSynchronized
  subst hsz
  have hD := hD0.self (sz := s.heap.size)
  generalize hAe : va_A (RSw cI cZ b0 bR bI bC bY bZ bF bL bN bX bT mcd mwd men mR mI mC mY mZ mF mmd mhi mL mN mfr mX mT mct mtk) s.heap.size = A at hD ⊢
  have hA : ∀ q : Nat, s.heap.size ≤ q → A q := fun q h => by rw [← hAe]; exact Or.inr h
  have hS : va_S A s.heap s.heap [] := va_S.rf
  have hl := lv_entry ([.ref b0, .int a1]) (n := 7) (Nat.le_of_ble_eq_true rfl)
  rw [lg_entry_eq]
  generalize (lg_sl ([.ref b0, .int a1]) ++ List.replicate (7 - (lg_sl ([.ref b0, .int a1])).length) Slot.unset).toArray = ls at hl ⊢
  have hl : lv_has ls 7 [(0, .ref b0), (1, .int a1)] := hl
  have lp_122 : ∀ (y1_122 : Int32) (y2_122 : Int32) (y4_122 : Int32) (y5_122 : Int32) (mcdf_122 : Int32) (mXf_122 : Nat → Int32) (mTf_122 : Nat → Int32) (mctf_122 : Int32) (mtkf_122 : Int32) (kx : Int32 → Int32 → Prop), (∀ (z3_122 : Int32) (z6_122 : Int32) (H : Heap) (locs : List Loc) (ls : Array Slot), va_P (dC, dI) vwCl (RSw cI cZ b0 bR bI bC bY bZ bF bL bN bX bT mcdf_122 mwd men mR mI mC mY mZ mF mmd mhi mL mN mfr mXf_122 mTf_122 mctf_122 mtkf_122) H → va_D A (RSw cI cZ b0 bR bI bC bY bZ bF bL bN bX bT mcdf_122 mwd men mR mI mC mY mZ mF mmd mhi mL mN mfr mXf_122 mTf_122 mctf_122 mtkf_122) → va_S A s.heap H locs → lv_has ls 7 [(0, .ref b0), (1, .int y1_122), (2, .int y2_122), (3, .int z3_122), (4, .int y4_122), (5, .int y5_122), (6, .int z6_122)] → kx z3_122 z6_122 → W p l e (headSpec ws_R_owners ({ frames := 4, cells := 0, slots := 0, locals := 85 })).room s m ([.ref b0, .int a1] : List Value).toArray below meth c H locs (0) (0) (MQ below (va_Qi (fun (r : Int32) (u : Int32 × (Nat → Int32) × (Nat → Int32) × Int32 × Int32) => post r u.1 u.2.1 u.2.2.1 u.2.2.2.1 u.2.2.2.2) (rw_B (dC, dI) vwCl [(cI, .int), (cZ, .boolean)] A (fun u : Int32 × (Nat → Int32) × (Nat → Int32) × Int32 × Int32 => RSw cI cZ b0 bR bI bC bY bZ bF bL bN bX bT u.1 mwd men mR mI mC mY mZ mF mmd mhi mL mN mfr u.2.1 u.2.2.1 u.2.2.2.1 u.2.2.2.2)) A) ([.ref b0, .int a1] : List Value).toArray s 0 0 A) (F0 m 168 ls [])) → ∀ (n : Nat) (x3_122 : Int32) (x6_122 : Int32) (H : Heap) (locs : List Loc) (ls : Array Slot), va_P (dC, dI) vwCl (RSw cI cZ b0 bR bI bC bY bZ bF bL bN bX bT mcdf_122 mwd men mR mI mC mY mZ mF mmd mhi mL mN mfr mXf_122 mTf_122 mctf_122 mtkf_122) H → va_D A (RSw cI cZ b0 bR bI bC bY bZ bF bL bN bX bT mcdf_122 mwd men mR mI mC mY mZ mF mmd mhi mL mN mfr mXf_122 mTf_122 mctf_122 mtkf_122) → va_S A s.heap H locs → lv_has ls 7 [(0, .ref b0), (1, .int y1_122), (2, .int y2_122), (3, .int x3_122), (4, .int y4_122), (5, .int y5_122), (6, .int x6_122)] → wqR_owners_122 men mR mC mY mZ mF mL mN y1_122 y2_122 y4_122 y5_122 mcdf_122 mXf_122 mTf_122 mctf_122 mtkf_122 post kx n x3_122 x6_122 → W p l e (headSpec ws_R_owners ({ frames := 4, cells := 0, slots := 0, locals := 85 })).room s m ([.ref b0, .int a1] : List Value).toArray below meth c H locs (0) (0) (MQ below (va_Qi (fun (r : Int32) (u : Int32 × (Nat → Int32) × (Nat → Int32) × Int32 × Int32) => post r u.1 u.2.1 u.2.2.1 u.2.2.2.1 u.2.2.2.2) (rw_B (dC, dI) vwCl [(cI, .int), (cZ, .boolean)] A (fun u : Int32 × (Nat → Int32) × (Nat → Int32) × Int32 × Int32 => RSw cI cZ b0 bR bI bC bY bZ bF bL bN bX bT u.1 mwd men mR mI mC mY mZ mF mmd mhi mL mN mfr u.2.1 u.2.2.1 u.2.2.2.1 u.2.2.2.2)) A) ([.ref b0, .int a1] : List Value).toArray s 0 0 A) (F0 m 122 ls []) := by
    intro y1_122 y2_122 y4_122 y5_122 mcdf_122 mXf_122 mTf_122 mctf_122 mtkf_122 kx K n
    induction n with
    | zero => intro x3_122 x6_122 H locs ls hP hD hS hl h; exact h.elim
    | succ n ih =>
      intro x3_122 x6_122 H locs ls hP hD hS hl h
      refine lv_iload hx hb d_R_owners_122 (lv_at hl 6 rfl) ?_
      refine lv_if_lt (tgt := 168) hx hb d_R_owners_124 (by decide) (fun c_124 => ?_) (fun c_124 => ?_)
      · have h := h.1 c_124
        exact K x3_122 x6_122 H locs ls hP hD hS (lv_sub hl [0, 1, 2, 3, 4, 5, 6] rfl) h
      · have h := h.2 c_124
        refine lv_aload_n hx hb d_R_owners_127 rfl (lv_at hl 0 rfl) ?_
        refine va_get (D := (dC, dI)) (ci := 2) (v := .ref bY) (C := R_R) (T := T_R) (N := 18) hx hb hw in_R hown hK hP 0 rfl rfl 6 (by decide) (hw _ wd_622) (fun _ h9 => h9) rfl d_R_owners_128 ?_
        refine lv_iload hx hb d_R_owners_131 (lv_at hl 5 rfl) ?_
        refine va_zald hx hb hK hP 4 1 rfl rfl h.1 d_R_owners_133 ?_
        have h := h.2
        refine lv_if_ne (tgt := 168) hx hb d_R_owners_134 (by decide) (fun c_134 => ?_) (fun c_134 => ?_)
        · have h := h.2 c_134
          exact K x3_122 x6_122 H locs ls hP hD hS (lv_sub hl [0, 1, 2, 3, 4, 5, 6] rfl) h
        · have h := h.1 c_134
          refine lv_aload_n hx hb d_R_owners_137 rfl (lv_at hl 0 rfl) ?_
          refine va_get (D := (dC, dI)) (ci := 2) (v := .ref bL) (C := R_R) (T := T_R) (N := 18) hx hb hw in_R hown hK hP 0 rfl rfl 11 (by decide) (hw _ wd_627) (fun _ h9 => h9) rfl d_R_owners_138 ?_
          refine lv_iload hx hb d_R_owners_141 (lv_at hl 6 rfl) ?_
          refine va_iald hx hb hK hP 7 0 rfl rfl h.1 d_R_owners_143 ?_
          have h := h.2
          refine lv_iload_n hx hb d_R_owners_144 rfl (lv_at hl 2 rfl) ?_
          refine lv_icmp_ne (tgt := 154) hx hb d_R_owners_145 (by decide) (fun c_145 => ?_) (fun c_145 => ?_)
          · have h := h.2 c_145
            refine lv_iload_n hx hb d_R_owners_154 rfl (lv_at hl 3 rfl) ?_
            refine lv_istore_n (lv' := [(3, .int x3_122), (0, .ref b0), (1, .int y1_122), (2, .int y2_122), (4, .int y4_122), (5, .int y5_122), (6, .int x6_122)]) hx hb d_R_owners_155 rfl hl (by decide) rfl (fun ls hl => ?_)
            refine lv_aload_n hx hb d_R_owners_156 rfl (lv_at hl 1 rfl) ?_
            refine va_get (D := (dC, dI)) (ci := 2) (v := .ref bN) (C := R_R) (T := T_R) (N := 18) hx hb hw in_R hown hK hP 0 rfl rfl 12 (by decide) (hw _ wd_628) (fun _ h9 => h9) rfl d_R_owners_157 ?_
            refine lv_iload hx hb d_R_owners_160 (lv_at hl 6 rfl) ?_
            refine va_iald hx hb hK hP 8 0 rfl rfl h.1 d_R_owners_162 ?_
            have h := h.2
            refine lv_istore (lv' := [(6, .int (mN x6_122.toNatClampNeg)), (3, .int x3_122), (0, .ref b0), (1, .int y1_122), (2, .int y2_122), (4, .int y4_122), (5, .int y5_122)]) hx hb d_R_owners_163 hl (by decide) rfl (fun ls hl => ?_)
            refine lv_goto (tgt := 122) hx hb d_R_owners_165 (by decide) ?_
            exact ih x3_122 (mN x6_122.toNatClampNeg) H locs ls hP hD hS (lv_sub hl [2, 3, 4, 1, 5, 6, 0] rfl) h
          · have h := h.1 c_145
            refine lv_iload_n hx hb d_R_owners_148 rfl (lv_at hl 3 rfl) ?_
            refine lv_iconst (v := (1 : Int32)) hx hb d_R_owners_149 (by decide) ?_
            refine lv_iadd hx hb d_R_owners_150 ?_
            refine lv_goto (tgt := 155) hx hb d_R_owners_151 (by decide) ?_
            refine lv_istore_n (lv' := [(3, .int (x3_122 + (1 : Int32))), (0, .ref b0), (1, .int y1_122), (2, .int y2_122), (4, .int y4_122), (5, .int y5_122), (6, .int x6_122)]) hx hb d_R_owners_155 rfl hl (by decide) rfl (fun ls hl => ?_)
            refine lv_aload_n hx hb d_R_owners_156 rfl (lv_at hl 1 rfl) ?_
            refine va_get (D := (dC, dI)) (ci := 2) (v := .ref bN) (C := R_R) (T := T_R) (N := 18) hx hb hw in_R hown hK hP 0 rfl rfl 12 (by decide) (hw _ wd_628) (fun _ h9 => h9) rfl d_R_owners_157 ?_
            refine lv_iload hx hb d_R_owners_160 (lv_at hl 6 rfl) ?_
            refine va_iald hx hb hK hP 8 0 rfl rfl h.1 d_R_owners_162 ?_
            have h := h.2
            refine lv_istore (lv' := [(6, .int (mN x6_122.toNatClampNeg)), (3, .int (x3_122 + (1 : Int32))), (0, .ref b0), (1, .int y1_122), (2, .int y2_122), (4, .int y4_122), (5, .int y5_122)]) hx hb d_R_owners_163 hl (by decide) rfl (fun ls hl => ?_)
            refine lv_goto (tgt := 122) hx hb d_R_owners_165 (by decide) ?_
            exact ih (x3_122 + (1 : Int32)) (mN x6_122.toNatClampNeg) H locs ls hP hD hS (lv_sub hl [2, 3, 4, 1, 5, 6, 0] rfl) h
  have lp_76 : ∀ (y1_76 : Int32) (y2_76 : Int32) (mcdf_76 : Int32) (mXf_76 : Nat → Int32) (mTf_76 : Nat → Int32) (mctf_76 : Int32) (mtkf_76 : Int32) (kx : Int32 → Int32 → Prop), (∀ (z3_76 : Int32) (z4_76 : Int32) (H : Heap) (locs : List Loc) (ls : Array Slot), va_P (dC, dI) vwCl (RSw cI cZ b0 bR bI bC bY bZ bF bL bN bX bT mcdf_76 mwd men mR mI mC mY mZ mF mmd mhi mL mN mfr mXf_76 mTf_76 mctf_76 mtkf_76) H → va_D A (RSw cI cZ b0 bR bI bC bY bZ bF bL bN bX bT mcdf_76 mwd men mR mI mC mY mZ mF mmd mhi mL mN mfr mXf_76 mTf_76 mctf_76 mtkf_76) → va_S A s.heap H locs → lv_has ls 7 [(0, .ref b0), (1, .int y1_76), (2, .int y2_76), (3, .int z3_76), (4, .int z4_76)] → kx z3_76 z4_76 → W p l e (headSpec ws_R_owners ({ frames := 4, cells := 0, slots := 0, locals := 85 })).room s m ([.ref b0, .int a1] : List Value).toArray below meth c H locs (0) (0) (MQ below (va_Qi (fun (r : Int32) (u : Int32 × (Nat → Int32) × (Nat → Int32) × Int32 × Int32) => post r u.1 u.2.1 u.2.2.1 u.2.2.2.1 u.2.2.2.2) (rw_B (dC, dI) vwCl [(cI, .int), (cZ, .boolean)] A (fun u : Int32 × (Nat → Int32) × (Nat → Int32) × Int32 × Int32 => RSw cI cZ b0 bR bI bC bY bZ bF bL bN bX bT u.1 mwd men mR mI mC mY mZ mF mmd mhi mL mN mfr u.2.1 u.2.2.1 u.2.2.2.1 u.2.2.2.2)) A) ([.ref b0, .int a1] : List Value).toArray s 0 0 A) (F0 m 174 ls [])) → ∀ (n : Nat) (x3_76 : Int32) (x4_76 : Int32) (H : Heap) (locs : List Loc) (ls : Array Slot), va_P (dC, dI) vwCl (RSw cI cZ b0 bR bI bC bY bZ bF bL bN bX bT mcdf_76 mwd men mR mI mC mY mZ mF mmd mhi mL mN mfr mXf_76 mTf_76 mctf_76 mtkf_76) H → va_D A (RSw cI cZ b0 bR bI bC bY bZ bF bL bN bX bT mcdf_76 mwd men mR mI mC mY mZ mF mmd mhi mL mN mfr mXf_76 mTf_76 mctf_76 mtkf_76) → va_S A s.heap H locs → lv_has ls 7 [(0, .ref b0), (1, .int y1_76), (2, .int y2_76), (3, .int x3_76), (4, .int x4_76)] → wqR_owners_76 men mR mC mY mZ mF mL mN y1_76 y2_76 mcdf_76 mXf_76 mTf_76 mctf_76 mtkf_76 post kx n x3_76 x4_76 → W p l e (headSpec ws_R_owners ({ frames := 4, cells := 0, slots := 0, locals := 85 })).room s m ([.ref b0, .int a1] : List Value).toArray below meth c H locs (0) (0) (MQ below (va_Qi (fun (r : Int32) (u : Int32 × (Nat → Int32) × (Nat → Int32) × Int32 × Int32) => post r u.1 u.2.1 u.2.2.1 u.2.2.2.1 u.2.2.2.2) (rw_B (dC, dI) vwCl [(cI, .int), (cZ, .boolean)] A (fun u : Int32 × (Nat → Int32) × (Nat → Int32) × Int32 × Int32 => RSw cI cZ b0 bR bI bC bY bZ bF bL bN bX bT u.1 mwd men mR mI mC mY mZ mF mmd mhi mL mN mfr u.2.1 u.2.2.1 u.2.2.2.1 u.2.2.2.2)) A) ([.ref b0, .int a1] : List Value).toArray s 0 0 A) (F0 m 76 ls []) := by
    intro y1_76 y2_76 mcdf_76 mXf_76 mTf_76 mctf_76 mtkf_76 kx K n
    induction n with
    | zero => intro x3_76 x4_76 H locs ls hP hD hS hl h; exact h.elim
    | succ n ih =>
      intro x3_76 x4_76 H locs ls hP hD hS hl h
      refine lv_iload hx hb d_R_owners_76 (lv_at hl 4 rfl) ?_
      refine lv_aload_n hx hb d_R_owners_78 rfl (lv_at hl 0 rfl) ?_
      refine va_get (D := (dC, dI)) (ci := 2) (v := .int mctf_76) (C := R_R) (T := T_R) (N := 18) hx hb hw in_R hown hK hP 0 rfl rfl 16 (by decide) (hw _ wd_632) (fun _ h9 => h9) rfl d_R_owners_79 ?_
      refine lv_icmp_ge (tgt := 174) hx hb d_R_owners_82 (by decide) (fun c_82 => ?_) (fun c_82 => ?_)
      · have h := h.1 c_82
        exact K x3_76 x4_76 H locs ls hP hD hS (lv_sub hl [0, 1, 2, 3, 4] rfl) h
      · have h := h.2 c_82
        refine lv_aload_n hx hb d_R_owners_85 rfl (lv_at hl 0 rfl) ?_
        refine va_get (D := (dC, dI)) (ci := 2) (v := .ref bT) (C := R_R) (T := T_R) (N := 18) hx hb hw in_R hown hK hP 0 rfl rfl 15 (by decide) (hw _ wd_631) (fun _ h9 => h9) rfl d_R_owners_86 ?_
        refine lv_iload hx hb d_R_owners_89 (lv_at hl 4 rfl) ?_
        refine va_iald hx hb hK hP 10 0 rfl rfl h.1 d_R_owners_91 ?_
        have h := h.2
        refine lv_istore (lv' := [(5, .int (mTf_76 x4_76.toNatClampNeg)), (0, .ref b0), (1, .int y1_76), (2, .int y2_76), (3, .int x3_76), (4, .int x4_76)]) hx hb d_R_owners_92 hl (by decide) rfl (fun ls hl => ?_)
        refine lv_aload_n hx hb d_R_owners_94 rfl (lv_at hl 1 rfl) ?_
        refine va_get (D := (dC, dI)) (ci := 2) (v := .ref bC) (C := R_R) (T := T_R) (N := 18) hx hb hw in_R hown hK hP 0 rfl rfl 5 (by decide) (hw _ wd_621) (fun _ h9 => h9) rfl d_R_owners_95 ?_
        refine lv_iload hx hb d_R_owners_98 (lv_at hl 0 rfl) ?_
        refine va_iald hx hb hK hP 3 0 rfl rfl h.1 d_R_owners_100 ?_
        have h := h.2
        refine lv_iload_n hx hb d_R_owners_101 rfl (lv_at hl 3 rfl) ?_
        refine lv_icmp_ne (tgt := 111) hx hb d_R_owners_102 (by decide) (fun c_102 => ?_) (fun c_102 => ?_)
        · have h := h.2 c_102
          refine lv_iload_n hx hb d_R_owners_111 rfl (lv_at hl 4 rfl) ?_
          refine lv_istore_n (lv' := [(3, .int x3_76), (5, .int (mTf_76 x4_76.toNatClampNeg)), (0, .ref b0), (1, .int y1_76), (2, .int y2_76), (4, .int x4_76)]) hx hb d_R_owners_112 rfl hl (by decide) rfl (fun ls hl => ?_)
          refine lv_aload_n hx hb d_R_owners_113 rfl (lv_at hl 2 rfl) ?_
          refine va_get (D := (dC, dI)) (ci := 2) (v := .ref bF) (C := R_R) (T := T_R) (N := 18) hx hb hw in_R hown hK hP 0 rfl rfl 8 (by decide) (hw _ wd_624) (fun _ h9 => h9) rfl d_R_owners_114 ?_
          refine lv_iload hx hb d_R_owners_117 (lv_at hl 1 rfl) ?_
          refine va_iald hx hb hK hP 6 0 rfl rfl h.1 d_R_owners_119 ?_
          have h := h.2
          refine lv_istore (lv' := [(6, .int (mF (mTf_76 x4_76.toNatClampNeg).toNatClampNeg)), (3, .int x3_76), (5, .int (mTf_76 x4_76.toNatClampNeg)), (0, .ref b0), (1, .int y1_76), (2, .int y2_76), (4, .int x4_76)]) hx hb d_R_owners_120 hl (by decide) rfl (fun ls hl => ?_)
          obtain ⟨n_122, h⟩ := h
          refine lp_122 y1_76 y2_76 x4_76 (mTf_76 x4_76.toNatClampNeg) mcdf_76 mXf_76 mTf_76 mctf_76 mtkf_76 _ (fun z3_122 z6_122 H locs ls hP hD hS hl h => ?_) n_122 x3_76 (mF (mTf_76 x4_76.toNatClampNeg).toNatClampNeg) H locs ls hP hD hS (lv_sub hl [3, 4, 5, 1, 6, 2, 0] rfl) h
          refine lv_iinc (v := x4_76 + (1 : Int32)) (lv' := [(4, .int (x4_76 + (1 : Int32))), (0, .ref b0), (1, .int y1_76), (2, .int y2_76), (3, .int z3_122), (5, .int (mTf_76 x4_76.toNatClampNeg)), (6, .int z6_122)]) hx hb d_R_owners_168 hl (k := 4) rfl rfl (by decide) rfl (fun ls hl => ?_)
          refine lv_goto (tgt := 76) hx hb d_R_owners_171 (by decide) ?_
          exact ih z3_122 (x4_76 + (1 : Int32)) H locs ls hP hD hS (lv_sub hl [1, 2, 3, 4, 0] rfl) h
        · have h := h.1 c_102
          refine lv_iload_n hx hb d_R_owners_105 rfl (lv_at hl 4 rfl) ?_
          refine lv_iconst (v := (1 : Int32)) hx hb d_R_owners_106 (by decide) ?_
          refine lv_iadd hx hb d_R_owners_107 ?_
          refine lv_goto (tgt := 112) hx hb d_R_owners_108 (by decide) ?_
          refine lv_istore_n (lv' := [(3, .int (x3_76 + (1 : Int32))), (5, .int (mTf_76 x4_76.toNatClampNeg)), (0, .ref b0), (1, .int y1_76), (2, .int y2_76), (4, .int x4_76)]) hx hb d_R_owners_112 rfl hl (by decide) rfl (fun ls hl => ?_)
          refine lv_aload_n hx hb d_R_owners_113 rfl (lv_at hl 2 rfl) ?_
          refine va_get (D := (dC, dI)) (ci := 2) (v := .ref bF) (C := R_R) (T := T_R) (N := 18) hx hb hw in_R hown hK hP 0 rfl rfl 8 (by decide) (hw _ wd_624) (fun _ h9 => h9) rfl d_R_owners_114 ?_
          refine lv_iload hx hb d_R_owners_117 (lv_at hl 1 rfl) ?_
          refine va_iald hx hb hK hP 6 0 rfl rfl h.1 d_R_owners_119 ?_
          have h := h.2
          refine lv_istore (lv' := [(6, .int (mF (mTf_76 x4_76.toNatClampNeg).toNatClampNeg)), (3, .int (x3_76 + (1 : Int32))), (5, .int (mTf_76 x4_76.toNatClampNeg)), (0, .ref b0), (1, .int y1_76), (2, .int y2_76), (4, .int x4_76)]) hx hb d_R_owners_120 hl (by decide) rfl (fun ls hl => ?_)
          obtain ⟨n_122, h⟩ := h
          refine lp_122 y1_76 y2_76 x4_76 (mTf_76 x4_76.toNatClampNeg) mcdf_76 mXf_76 mTf_76 mctf_76 mtkf_76 _ (fun z3_122 z6_122 H locs ls hP hD hS hl h => ?_) n_122 (x3_76 + (1 : Int32)) (mF (mTf_76 x4_76.toNatClampNeg).toNatClampNeg) H locs ls hP hD hS (lv_sub hl [3, 4, 5, 1, 6, 2, 0] rfl) h
          refine lv_iinc (v := x4_76 + (1 : Int32)) (lv' := [(4, .int (x4_76 + (1 : Int32))), (0, .ref b0), (1, .int y1_76), (2, .int y2_76), (3, .int z3_122), (5, .int (mTf_76 x4_76.toNatClampNeg)), (6, .int z6_122)]) hx hb d_R_owners_168 hl (k := 4) rfl rfl (by decide) rfl (fun ls hl => ?_)
          refine lv_goto (tgt := 76) hx hb d_R_owners_171 (by decide) ?_
          exact ih z3_122 (x4_76 + (1 : Int32)) H locs ls hP hD hS (lv_sub hl [1, 2, 3, 4, 0] rfl) h
  have lp_41 : ∀ (y1_41 : Int32) (y2_41 : Int32) (mcdf_41 : Int32) (mXf_41 : Nat → Int32) (mTf_41 : Nat → Int32) (mctf_41 : Int32) (mtkf_41 : Int32) (kx : Int32 → Int32 → Prop), (∀ (z3_41 : Int32) (z4_41 : Int32) (H : Heap) (locs : List Loc) (ls : Array Slot), va_P (dC, dI) vwCl (RSw cI cZ b0 bR bI bC bY bZ bF bL bN bX bT mcdf_41 mwd men mR mI mC mY mZ mF mmd mhi mL mN mfr mXf_41 mTf_41 mctf_41 mtkf_41) H → va_D A (RSw cI cZ b0 bR bI bC bY bZ bF bL bN bX bT mcdf_41 mwd men mR mI mC mY mZ mF mmd mhi mL mN mfr mXf_41 mTf_41 mctf_41 mtkf_41) → va_S A s.heap H locs → lv_has ls 7 [(0, .ref b0), (1, .int y1_41), (2, .int y2_41), (3, .int z3_41), (4, .int z4_41)] → kx z3_41 z4_41 → W p l e (headSpec ws_R_owners ({ frames := 4, cells := 0, slots := 0, locals := 85 })).room s m ([.ref b0, .int a1] : List Value).toArray below meth c H locs (0) (0) (MQ below (va_Qi (fun (r : Int32) (u : Int32 × (Nat → Int32) × (Nat → Int32) × Int32 × Int32) => post r u.1 u.2.1 u.2.2.1 u.2.2.2.1 u.2.2.2.2) (rw_B (dC, dI) vwCl [(cI, .int), (cZ, .boolean)] A (fun u : Int32 × (Nat → Int32) × (Nat → Int32) × Int32 × Int32 => RSw cI cZ b0 bR bI bC bY bZ bF bL bN bX bT u.1 mwd men mR mI mC mY mZ mF mmd mhi mL mN mfr u.2.1 u.2.2.1 u.2.2.2.1 u.2.2.2.2)) A) ([.ref b0, .int a1] : List Value).toArray s 0 0 A) (F0 m 73 ls [])) → ∀ (n : Nat) (x3_41 : Int32) (x4_41 : Int32) (H : Heap) (locs : List Loc) (ls : Array Slot), va_P (dC, dI) vwCl (RSw cI cZ b0 bR bI bC bY bZ bF bL bN bX bT mcdf_41 mwd men mR mI mC mY mZ mF mmd mhi mL mN mfr mXf_41 mTf_41 mctf_41 mtkf_41) H → va_D A (RSw cI cZ b0 bR bI bC bY bZ bF bL bN bX bT mcdf_41 mwd men mR mI mC mY mZ mF mmd mhi mL mN mfr mXf_41 mTf_41 mctf_41 mtkf_41) → va_S A s.heap H locs → lv_has ls 7 [(0, .ref b0), (1, .int y1_41), (2, .int y2_41), (3, .int x3_41), (4, .int x4_41)] → wqR_owners_41 men mR mC mY mZ mF mL mN y1_41 y2_41 mcdf_41 mXf_41 mTf_41 mctf_41 mtkf_41 post kx n x3_41 x4_41 → W p l e (headSpec ws_R_owners ({ frames := 4, cells := 0, slots := 0, locals := 85 })).room s m ([.ref b0, .int a1] : List Value).toArray below meth c H locs (0) (0) (MQ below (va_Qi (fun (r : Int32) (u : Int32 × (Nat → Int32) × (Nat → Int32) × Int32 × Int32) => post r u.1 u.2.1 u.2.2.1 u.2.2.2.1 u.2.2.2.2) (rw_B (dC, dI) vwCl [(cI, .int), (cZ, .boolean)] A (fun u : Int32 × (Nat → Int32) × (Nat → Int32) × Int32 × Int32 => RSw cI cZ b0 bR bI bC bY bZ bF bL bN bX bT u.1 mwd men mR mI mC mY mZ mF mmd mhi mL mN mfr u.2.1 u.2.2.1 u.2.2.2.1 u.2.2.2.2)) A) ([.ref b0, .int a1] : List Value).toArray s 0 0 A) (F0 m 41 ls []) := by
    intro y1_41 y2_41 mcdf_41 mXf_41 mTf_41 mctf_41 mtkf_41 kx K n
    induction n with
    | zero => intro x3_41 x4_41 H locs ls hP hD hS hl h; exact h.elim
    | succ n ih =>
      intro x3_41 x4_41 H locs ls hP hD hS hl h
      refine lv_iload hx hb d_R_owners_41 (lv_at hl 4 rfl) ?_
      refine lv_bipush (v := (32 : Int32)) hx hb d_R_owners_43 (by decide) ?_
      refine lv_icmp_ge (tgt := 73) hx hb d_R_owners_45 (by decide) (fun c_45 => ?_) (fun c_45 => ?_)
      · have h := h.1 c_45
        exact K x3_41 x4_41 H locs ls hP hD hS (lv_sub hl [0, 1, 2, 3, 4] rfl) h
      · have h := h.2 c_45
        refine lv_aload_n hx hb d_R_owners_48 rfl (lv_at hl 0 rfl) ?_
        refine va_get (D := (dC, dI)) (ci := 2) (v := .ref bR) (C := R_R) (T := T_R) (N := 18) hx hb hw in_R hown hK hP 0 rfl rfl 3 (by decide) (hw _ wd_619) (fun _ h9 => h9) rfl d_R_owners_49 ?_
        refine lv_iload hx hb d_R_owners_52 (lv_at hl 4 rfl) ?_
        refine va_iald hx hb hK hP 1 0 rfl rfl h.1 d_R_owners_54 ?_
        have h := h.2
        refine lv_iload_n hx hb d_R_owners_55 rfl (lv_at hl 2 rfl) ?_
        refine lv_icmp_ne (tgt := 65) hx hb d_R_owners_56 (by decide) (fun c_56 => ?_) (fun c_56 => ?_)
        · have h := h.2 c_56
          refine lv_iload_n hx hb d_R_owners_65 rfl (lv_at hl 3 rfl) ?_
          refine lv_istore_n (lv' := [(3, .int x3_41), (0, .ref b0), (1, .int y1_41), (2, .int y2_41), (4, .int x4_41)]) hx hb d_R_owners_66 rfl hl (by decide) rfl (fun ls hl => ?_)
          refine lv_iinc (v := x4_41 + (1 : Int32)) (lv' := [(4, .int (x4_41 + (1 : Int32))), (3, .int x3_41), (0, .ref b0), (1, .int y1_41), (2, .int y2_41)]) hx hb d_R_owners_67 hl (k := 4) rfl rfl (by decide) rfl (fun ls hl => ?_)
          refine lv_goto (tgt := 41) hx hb d_R_owners_70 (by decide) ?_
          exact ih x3_41 (x4_41 + (1 : Int32)) H locs ls hP hD hS (lv_sub hl [2, 3, 4, 1, 0] rfl) h
        · have h := h.1 c_56
          refine lv_iload_n hx hb d_R_owners_59 rfl (lv_at hl 3 rfl) ?_
          refine lv_iconst (v := (1 : Int32)) hx hb d_R_owners_60 (by decide) ?_
          refine lv_iadd hx hb d_R_owners_61 ?_
          refine lv_goto (tgt := 66) hx hb d_R_owners_62 (by decide) ?_
          refine lv_istore_n (lv' := [(3, .int (x3_41 + (1 : Int32))), (0, .ref b0), (1, .int y1_41), (2, .int y2_41), (4, .int x4_41)]) hx hb d_R_owners_66 rfl hl (by decide) rfl (fun ls hl => ?_)
          refine lv_iinc (v := x4_41 + (1 : Int32)) (lv' := [(4, .int (x4_41 + (1 : Int32))), (3, .int (x3_41 + (1 : Int32))), (0, .ref b0), (1, .int y1_41), (2, .int y2_41)]) hx hb d_R_owners_67 hl (k := 4) rfl rfl (by decide) rfl (fun ls hl => ?_)
          refine lv_goto (tgt := 41) hx hb d_R_owners_70 (by decide) ?_
          exact ih (x3_41 + (1 : Int32)) (x4_41 + (1 : Int32)) H locs ls hP hD hS (lv_sub hl [2, 3, 4, 1, 0] rfl) h
  have lp_16 : ∀ (y1_16 : Int32) (mcd_16 : Int32) (mX_16 : Nat → Int32) (mT_16 : Nat → Int32) (mct_16 : Int32) (mtk_16 : Int32) (H : Heap) (locs : List Loc) (ls : Array Slot), va_P (dC, dI) vwCl (RSw cI cZ b0 bR bI bC bY bZ bF bL bN bX bT mcd_16 mwd men mR mI mC mY mZ mF mmd mhi mL mN mfr mX_16 mT_16 mct_16 mtk_16) H → va_D A (RSw cI cZ b0 bR bI bC bY bZ bF bL bN bX bT mcd_16 mwd men mR mI mC mY mZ mF mmd mhi mL mN mfr mX_16 mT_16 mct_16 mtk_16) → va_S A s.heap H locs → lv_has ls 7 [(0, .ref b0), (1, .int y1_16)] → wqR_owners_16 men mR mC mY mZ mF mL mN y1_16 mcd_16 mX_16 mT_16 mct_16 mtk_16 post → W p l e (headSpec ws_R_owners ({ frames := 4, cells := 0, slots := 0, locals := 85 })).room s m ([.ref b0, .int a1] : List Value).toArray below meth c H locs (0) (0) (MQ below (va_Qi (fun (r : Int32) (u : Int32 × (Nat → Int32) × (Nat → Int32) × Int32 × Int32) => post r u.1 u.2.1 u.2.2.1 u.2.2.2.1 u.2.2.2.2) (rw_B (dC, dI) vwCl [(cI, .int), (cZ, .boolean)] A (fun u : Int32 × (Nat → Int32) × (Nat → Int32) × Int32 × Int32 => RSw cI cZ b0 bR bI bC bY bZ bF bL bN bX bT u.1 mwd men mR mI mC mY mZ mF mmd mhi mL mN mfr u.2.1 u.2.2.1 u.2.2.2.1 u.2.2.2.2)) A) ([.ref b0, .int a1] : List Value).toArray s 0 0 A) (F0 m 16 ls []) := by
    intro y1_16 mcd_16 mX_16 mT_16 mct_16 mtk_16 H locs ls hP hD hS hl h
    unfold wqR_owners_16 at h
    refine lv_aload_n hx hb d_R_owners_16 rfl (lv_at hl 0 rfl) ?_
    refine va_get (D := (dC, dI)) (ci := 2) (v := .int mcd_16) (C := R_R) (T := T_R) (N := 18) hx hb hw in_R hown hK hP 0 rfl rfl 0 (by decide) (hw _ wd_616) (fun _ h9 => h9) rfl d_R_owners_17 ?_
    refine lv_if_le (tgt := 25) hx hb d_R_owners_20 (by decide) (fun c_20 => ?_) (fun c_20 => ?_)
    · have h := h.1 c_20
      refine lv_aload_n hx hb d_R_owners_25 rfl (lv_at hl 0 rfl) ?_
      have hFc := va_free (wc := RSw cI cZ b0 bR bI bC bY bZ bF bL bN bX bT mcd_16 mwd men mR mI mC mY mZ mF mmd mhi mL mN mfr mX_16 mT_16 mct_16 mtk_16) hD hS hA [0, 1, 2, 3, 4, 5, 6, 7, 8, 9, 10] rfl
      refine va_callv (va_runV (As := []) (rest := []) ⟨hx, hb, hml, hown, hw⟩ (mR_reach l dC dI cI cZ b0 bR bI bC bY bZ bF bL bN bX bT H.size mcd_16 mwd men mR mI mC mY mZ mF mmd mhi mL mN mfr mX_16 mT_16 mct_16 mtk_16 _ h) (cwV 0 hw g_R_95 rfl rfl rfl (by decide +kernel) ⟨Nat.le_of_ble_eq_true rfl, Nat.le_of_ble_eq_true rfl⟩) (rw_PV (ci := 2) (q0 := 0) hK hP hD rfl rfl) rfl rfl hl.1 rfl (lv_room (Nat.le_of_ble_eq_true rfl)) d_R_owners_26 ⟨Nat.le_of_ble_eq_true rfl, Nat.le_of_ble_eq_true rfl⟩) hS (fun q _ h => hFc q h) hFc (fun u t H locs ht hvm h hB hz1 hk1 hS => ?_)
      obtain ⟨mX_26, mT_26, mct_26, mtk_26⟩ := u
      obtain ⟨hP, hK1, hD1⟩ := hB
      rw [ht] at hP
      have hD := hD1.weaken (fun _ _ _ q => hFc _ q)
      clear hFc hD1 hK1
      try dsimp only at h
      have hP : va_P (dC, dI) vwCl (RSw cI cZ b0 bR bI bC bY bZ bF bL bN bX bT mcd_16 mwd men mR mI mC mY mZ mF mmd mhi mL mN mfr mX_26 mT_26 mct_26 mtk_26) H := hP
      have hD : va_D A (RSw cI cZ b0 bR bI bC bY bZ bF bL bN bX bT mcd_16 mwd men mR mI mC mY mZ mF mmd mhi mL mN mfr mX_26 mT_26 mct_26 mtk_26) := hD
      refine lv_aload_n hx hb d_R_owners_29 rfl (lv_at hl 0 rfl) ?_
      refine va_get (D := (dC, dI)) (ci := 2) (v := .ref bR) (C := R_R) (T := T_R) (N := 18) hx hb hw in_R hown hK hP 0 rfl rfl 3 (by decide) (hw _ wd_619) (fun _ h9 => h9) rfl d_R_owners_30 ?_
      refine lv_iload_n hx hb d_R_owners_33 rfl (lv_at hl 1 rfl) ?_
      refine va_iald hx hb hK hP 1 0 rfl rfl h.1 d_R_owners_34 ?_
      have h := h.2
      refine lv_istore_n (lv' := [(2, .int (mR y1_16.toNatClampNeg)), (0, .ref b0), (1, .int y1_16)]) hx hb d_R_owners_35 rfl hl (by decide) rfl (fun ls hl => ?_)
      refine lv_iconst (v := (0 : Int32)) hx hb d_R_owners_36 (by decide) ?_
      refine lv_istore_n (lv' := [(3, .int (0 : Int32)), (2, .int (mR y1_16.toNatClampNeg)), (0, .ref b0), (1, .int y1_16)]) hx hb d_R_owners_37 rfl hl (by decide) rfl (fun ls hl => ?_)
      refine lv_iconst (v := (0 : Int32)) hx hb d_R_owners_38 (by decide) ?_
      refine lv_istore (lv' := [(4, .int (0 : Int32)), (3, .int (0 : Int32)), (2, .int (mR y1_16.toNatClampNeg)), (0, .ref b0), (1, .int y1_16)]) hx hb d_R_owners_39 hl (by decide) rfl (fun ls hl => ?_)
      obtain ⟨n_41, h⟩ := h
      refine lp_41 y1_16 (mR y1_16.toNatClampNeg) mcd_16 mX_26 mT_26 mct_26 mtk_26 _ (fun z3_41 z4_41 H locs ls hP hD hS hl h => ?_) n_41 (0 : Int32) (0 : Int32) H locs ls hP hD hS (lv_sub hl [3, 4, 2, 1, 0] rfl) h
      refine lv_iconst (v := (0 : Int32)) hx hb d_R_owners_73 (by decide) ?_
      refine lv_istore (lv' := [(4, .int (0 : Int32)), (0, .ref b0), (1, .int y1_16), (2, .int (mR y1_16.toNatClampNeg)), (3, .int z3_41)]) hx hb d_R_owners_74 hl (by decide) rfl (fun ls hl => ?_)
      obtain ⟨n_76, h⟩ := h
      refine lp_76 y1_16 (mR y1_16.toNatClampNeg) mcd_16 mX_26 mT_26 mct_26 mtk_26 _ (fun z3_76 z4_76 H locs ls hP hD hS hl h => ?_) n_76 z3_41 (0 : Int32) H locs ls hP hD hS (lv_sub hl [1, 2, 3, 4, 0] rfl) h
      refine lv_iload_n hx hb d_R_owners_174 rfl (lv_at hl 3 rfl) ?_
      exact W.iret (v := z3_76) hx hb hr9 (fun t ht hW => ⟨⟨_, (mcd_16, mX_26, mT_26, mct_26, mtk_26), rfl, h, by rw [ht]; exact hP, va_K.moved hW.alike hK, hD⟩, hS.F ht⟩) hS.2.2 d_R_owners_175
    · have h := h.2 c_20
      refine lv_iconst (v := (0 : Int32)) hx hb d_R_owners_23 (by decide) ?_
      exact W.iret (v := (0 : Int32)) hx hb hr9 (fun t ht hW => ⟨⟨_, (mcd_16, mX_16, mT_16, mct_16, mtk_16), rfl, h, by rw [ht]; exact hP, va_K.moved hW.alike hK, hD⟩, hS.F ht⟩) hS.2.2 d_R_owners_24
  unfold wqR_owners at h
  refine lv_aload_n hx hb d_R_owners_0 rfl (lv_at hl 0 rfl) ?_
  refine lv_iload_n hx hb d_R_owners_1 rfl (lv_at hl 1 rfl) ?_
  refine rq_calli (W.runS (As := [.int a1]) (rest := [.ref b0]) ⟨hx, hb, hml, hown, hw⟩ (mR_isRegister l a1 _ h) (va_cwS 1 hw g_R_52 rfl rfl rfl (by decide +kernel) ⟨Nat.le_of_ble_eq_true rfl, Nat.le_of_ble_eq_true rfl⟩) preEq rfl rfl hl.1 rfl (lv_room (Nat.le_of_ble_eq_true rfl)) d_R_owners_2 ⟨Nat.le_of_ble_eq_true rfl, Nat.le_of_ble_eq_true rfl⟩) (fun r2 h => ?_)
  refine lv_if_eq (tgt := 12) hx hb d_R_owners_5 (by decide) (fun c_5 => ?_) (fun c_5 => ?_)
  · have h := h.1 c_5
    refine lv_iconst (v := (1 : Int32)) hx hb d_R_owners_12 (by decide) ?_
    refine va_put (D := (dC, dI)) (ci := 2) (v := .int (1 : Int32)) (ty := .int) (C := R_R) (T := T_R) (N := 18) hx hb hw in_R ty_R ty_R_ok nm_R hown hK hP hD hS 0 rfl rfl 0 (by decide) (hw _ wd_616) (fun _ h9 => h9) rfl (by decide +kernel) rfl rfl (Nat.le_of_ble_eq_true rfl) d_R_owners_13 (fun H locs hP hD hS => ?_)
    have hP : va_P (dC, dI) vwCl (RSw cI cZ b0 bR bI bC bY bZ bF bL bN bX bT (1 : Int32) mwd men mR mI mC mY mZ mF mmd mhi mL mN mfr mX mT mct mtk) H := hP
    have hD : va_D A (RSw cI cZ b0 bR bI bC bY bZ bF bL bN bX bT (1 : Int32) mwd men mR mI mC mY mZ mF mmd mhi mL mN mfr mX mT mct mtk) := hD
    exact lp_16 a1 (1 : Int32) mX mT mct mtk H locs ls hP hD hS (lv_sub hl [0, 1] rfl) h
  · have h := h.2 c_5
    refine lv_iconst (v := (0 : Int32)) hx hb d_R_owners_8 (by decide) ?_
    refine lv_goto (tgt := 13) hx hb d_R_owners_9 (by decide) ?_
    refine va_put (D := (dC, dI)) (ci := 2) (v := .int (0 : Int32)) (ty := .int) (C := R_R) (T := T_R) (N := 18) hx hb hw in_R ty_R ty_R_ok nm_R hown hK hP hD hS 0 rfl rfl 0 (by decide) (hw _ wd_616) (fun _ h9 => h9) rfl (by decide +kernel) rfl rfl (Nat.le_of_ble_eq_true rfl) d_R_owners_13 (fun H locs hP hD hS => ?_)
    have hP : va_P (dC, dI) vwCl (RSw cI cZ b0 bR bI bC bY bZ bF bL bN bX bT (0 : Int32) mwd men mR mI mC mY mZ mF mmd mhi mL mN mfr mX mT mct mtk) H := hP
    have hD : va_D A (RSw cI cZ b0 bR bI bC bY bZ bF bL bN bX bT (0 : Int32) mwd men mR mI mC mY mZ mF mmd mhi mL mN mfr mX mT mct mtk) := hD
    exact lp_16 a1 (0 : Int32) mX mT mct mtk H locs ls hP hD hS (lv_sub hl [0, 1] rfl) h
def wqR_reaches_25 (men : Int32) (mR : Nat → Int32) (mC : Nat → Int32) (mY : Nat → Int32) (mZ : Nat → Int32) (mF : Nat → Int32) (mL : Nat → Int32) (mN : Nat → Int32) (y1_25 : Int32) (y2_25 : Int32) (mcd_25 : Int32) (mX_25 : Nat → Int32) (mT_25 : Nat → Int32) (mct_25 : Int32) (mtk_25 : Int32) (post : Int32 → Int32 → (Nat → Int32) → (Nat → Int32) → Int32 → Int32 → Prop) : Prop :=
  (mcd_25 ≤ 0 → (wqR_forget men mX_25 mct_25 mtk_25 (fun mX_35 mct_35 mtk_35 => vp_in y1_25 32 ∧ (wqR_meet mX_35 mT_25 mct_35 (mR y1_25.toNatClampNeg) (fun mX_45 mT_45 mct_45 => wqR_spread mC mY mZ mF mL mN mX_45 mT_45 mct_45 mtk_35 (fun mX_49 mT_49 mct_49 mtk_49 => vp_in y2_25 32 ∧ (wqR_placeOf (mR y2_25.toNatClampNeg) (fun r62 => vp_in r62 8192 ∧ (narrow .boolean (.int (mX_49 r62.toNatClampNeg)) = .int (mX_49 r62.toNatClampNeg) ∧ post (mX_49 r62.toNatClampNeg) mcd_25 mX_49 mT_49 mct_49 mtk_49))))))))) ∧ (¬ (mcd_25 ≤ 0) → (post (0 : Int32) mcd_25 mX_25 mT_25 mct_25 mtk_25))
def wqR_reaches (mcd : Int32) (men : Int32) (mR : Nat → Int32) (mC : Nat → Int32) (mY : Nat → Int32) (mZ : Nat → Int32) (mF : Nat → Int32) (mL : Nat → Int32) (mN : Nat → Int32) (mX : Nat → Int32) (mT : Nat → Int32) (mct : Int32) (mtk : Int32) (a1 : Int32) (a2 : Int32) (post : Int32 → Int32 → (Nat → Int32) → (Nat → Int32) → Int32 → Int32 → Prop) : Prop :=
  wqR_has mR a1 (fun r3 => (r3 = 0 → (wqR_reaches_25 men mR mC mY mZ mF mL mN a1 a2 (1 : Int32) mX mT mct mtk post)) ∧ (¬ (r3 = 0) → (wqR_has mR a2 (fun r11 => (r11 = 0 → (wqR_reaches_25 men mR mC mY mZ mF mL mN a1 a2 (1 : Int32) mX mT mct mtk post)) ∧ (¬ (r11 = 0) → (wqR_reaches_25 men mR mC mY mZ mF mL mN a1 a2 (0 : Int32) mX mT mct mtk post))))))
set_option maxHeartbeats 4000000 in
set_option maxRecDepth 100000 in
theorem mR_reaches (l : Launch) (dC : Nat → ClassId) (dI : Nat → Nat → Nat) (cI : ClassId) (cZ : ClassId) (b0 : Nat) (bR : Nat) (bI : Nat) (bC : Nat) (bY : Nat) (bZ : Nat) (bF : Nat) (bL : Nat) (bN : Nat) (bX : Nat) (bT : Nat) (sz : Nat) (mcd : Int32) (mwd : Int32) (men : Int32) (mR : Nat → Int32) (mI : Nat → Int32) (mC : Nat → Int32) (mY : Nat → Int32) (mZ : Nat → Int32) (mF : Nat → Int32) (mmd : Int32) (mhi : Int32) (mL : Nat → Int32) (mN : Nat → Int32) (mfr : Int32) (mX : Nat → Int32) (mT : Nat → Int32) (mct : Int32) (mtk : Int32) (a1 : Int32) (a2 : Int32) (post : Int32 → Int32 → (Nat → Int32) → (Nat → Int32) → Int32 → Int32 → Prop) (h : wqR_reaches mcd men mR mC mY mZ mF mL mN mX mT mct mtk a1 a2 post) : Met l y_R_reaches ws_R_reaches ({ frames := 3, cells := 0, slots := 0, locals := 64 }) (rw_P (dC, dI) vwCl (RSw cI cZ b0 bR bI bC bY bZ bF bL bN bX bT mcd mwd men mR mI mC mY mZ mF mmd mhi mL mN mfr mX mT mct mtk) [(cI, .int), (cZ, .boolean)] sz [.ref b0, .int a1, .int a2]) (va_Qi (fun (r : Int32) (u : Int32 × (Nat → Int32) × (Nat → Int32) × Int32 × Int32) => post r u.1 u.2.1 u.2.2.1 u.2.2.2.1 u.2.2.2.2) (rw_B (dC, dI) vwCl [(cI, .int), (cZ, .boolean)] (va_A (RSw cI cZ b0 bR bI bC bY bZ bF bL bN bX bT mcd mwd men mR mI mC mY mZ mF mmd mhi mL mN mfr mX mT mct mtk) sz) (fun u : Int32 × (Nat → Int32) × (Nat → Int32) × Int32 × Int32 => RSw cI cZ b0 bR bI bC bY bZ bF bL bN bX bT u.1 mwd men mR mI mC mY mZ mF mmd mhi mL mN mfr u.2.1 u.2.2.1 u.2.2.2.1 u.2.2.2.2)) (va_A (RSw cI cZ b0 bR bI bC bY bZ bF bL bN bX bT mcd mwd men mR mI mC mY mZ mF mmd mhi mL mN mfr mX mT mct mtk) sz)) 0 0 (va_A (RSw cI cZ b0 bR bI bC bY bZ bF bL bN bX bT mcd mwd men mR mI mC mY mZ mF mmd mhi mL mN mfr mX mT mct mtk) sz) := by
  refine Met.ofW (cc := c_R_reaches) (maxL := 3) (ret := (some .boolean)) (by decide) rfl ?_
  intro p e s m args below meth c s₁ B hml hv
  obtain ⟨rfl, hsz, hP, hK, hD0⟩ := hv
  have hx := B.exec
  have hb := B.bytes
  have hr9 := B.returns
  have hts := atoms_spec (ws := ws_R_reaches) B.pre
  have hw : ∀ w ∈ WB_, w.before _ s = true := fun w h => hts w (List.mem_cons_of_mem _ h)
  have hown : s.vm.findClass R_R = some m.cls := findClass_of_methodNamed B.named
  have hlocks := B.notSynchronized
  subst hsz
  have hD := hD0.self (sz := s.heap.size)
  generalize hAe : va_A (RSw cI cZ b0 bR bI bC bY bZ bF bL bN bX bT mcd mwd men mR mI mC mY mZ mF mmd mhi mL mN mfr mX mT mct mtk) s.heap.size = A at hD ⊢
  have hA : ∀ q : Nat, s.heap.size ≤ q → A q := fun q h => by rw [← hAe]; exact Or.inr h
  have hS : va_S A s.heap s.heap [] := va_S.rf
  have hl := lv_entry ([.ref b0, .int a1, .int a2]) (n := 3) (Nat.le_of_ble_eq_true rfl)
  rw [lg_entry_eq]
  generalize (lg_sl ([.ref b0, .int a1, .int a2]) ++ List.replicate (3 - (lg_sl ([.ref b0, .int a1, .int a2])).length) Slot.unset).toArray = ls at hl ⊢
  have hl : lv_has ls 3 [(0, .ref b0), (1, .int a1), (2, .int a2)] := hl
  have lp_25 : ∀ (y1_25 : Int32) (y2_25 : Int32) (mcd_25 : Int32) (mX_25 : Nat → Int32) (mT_25 : Nat → Int32) (mct_25 : Int32) (mtk_25 : Int32) (H : Heap) (locs : List Loc) (ls : Array Slot), va_P (dC, dI) vwCl (RSw cI cZ b0 bR bI bC bY bZ bF bL bN bX bT mcd_25 mwd men mR mI mC mY mZ mF mmd mhi mL mN mfr mX_25 mT_25 mct_25 mtk_25) H → va_D A (RSw cI cZ b0 bR bI bC bY bZ bF bL bN bX bT mcd_25 mwd men mR mI mC mY mZ mF mmd mhi mL mN mfr mX_25 mT_25 mct_25 mtk_25) → va_S A s.heap H locs → lv_has ls 3 [(0, .ref b0), (1, .int y1_25), (2, .int y2_25)] → wqR_reaches_25 men mR mC mY mZ mF mL mN y1_25 y2_25 mcd_25 mX_25 mT_25 mct_25 mtk_25 post → W p l e (headSpec ws_R_reaches ({ frames := 3, cells := 0, slots := 0, locals := 64 })).room s m ([.ref b0, .int a1, .int a2] : List Value).toArray below meth c H locs (0) (0) (MQ below (va_Qi (fun (r : Int32) (u : Int32 × (Nat → Int32) × (Nat → Int32) × Int32 × Int32) => post r u.1 u.2.1 u.2.2.1 u.2.2.2.1 u.2.2.2.2) (rw_B (dC, dI) vwCl [(cI, .int), (cZ, .boolean)] A (fun u : Int32 × (Nat → Int32) × (Nat → Int32) × Int32 × Int32 => RSw cI cZ b0 bR bI bC bY bZ bF bL bN bX bT u.1 mwd men mR mI mC mY mZ mF mmd mhi mL mN mfr u.2.1 u.2.2.1 u.2.2.2.1 u.2.2.2.2)) A) ([.ref b0, .int a1, .int a2] : List Value).toArray s 0 0 A) (F0 m 25 ls []) := by
    intro y1_25 y2_25 mcd_25 mX_25 mT_25 mct_25 mtk_25 H locs ls hP hD hS hl h
    unfold wqR_reaches_25 at h
    refine lv_aload_n hx hb d_R_reaches_25 rfl (lv_at hl 0 rfl) ?_
    refine va_get (D := (dC, dI)) (ci := 2) (v := .int mcd_25) (C := R_R) (T := T_R) (N := 18) hx hb hw in_R hown hK hP 0 rfl rfl 0 (by decide) (hw _ wd_616) (fun _ h9 => h9) rfl d_R_reaches_26 ?_
    refine lv_if_le (tgt := 34) hx hb d_R_reaches_29 (by decide) (fun c_29 => ?_) (fun c_29 => ?_)
    · have h := h.1 c_29
      refine lv_aload_n hx hb d_R_reaches_34 rfl (lv_at hl 0 rfl) ?_
      have hFc := va_free (wc := RSw cI cZ b0 bR bI bC bY bZ bF bL bN bX bT mcd_25 mwd men mR mI mC mY mZ mF mmd mhi mL mN mfr mX_25 mT_25 mct_25 mtk_25) hD hS hA [0, 1, 2, 3, 4, 5, 6, 7, 8, 9, 10] rfl
      refine va_callv (va_runV (As := []) (rest := []) ⟨hx, hb, hml, hown, hw⟩ (mR_forget l dC dI cI cZ b0 bR bI bC bY bZ bF bL bN bX bT H.size mcd_25 mwd men mR mI mC mY mZ mF mmd mhi mL mN mfr mX_25 mT_25 mct_25 mtk_25 _ h) (cwV 0 hw g_R_80 rfl rfl rfl (by decide +kernel) ⟨Nat.le_of_ble_eq_true rfl, Nat.le_of_ble_eq_true rfl⟩) (rw_PV (ci := 2) (q0 := 0) hK hP hD rfl rfl) rfl rfl hl.1 rfl (lv_room (Nat.le_of_ble_eq_true rfl)) d_R_reaches_35 ⟨Nat.le_of_ble_eq_true rfl, Nat.le_of_ble_eq_true rfl⟩) hS (fun q _ h => hFc q h) hFc (fun u t H locs ht hvm h hB hz1 hk1 hS => ?_)
      obtain ⟨mX_35, mct_35, mtk_35⟩ := u
      obtain ⟨hP, hK1, hD1⟩ := hB
      rw [ht] at hP
      have hD := hD1.weaken (fun _ _ _ q => hFc _ q)
      clear hFc hD1 hK1
      try dsimp only at h
      have hP : va_P (dC, dI) vwCl (RSw cI cZ b0 bR bI bC bY bZ bF bL bN bX bT mcd_25 mwd men mR mI mC mY mZ mF mmd mhi mL mN mfr mX_35 mT_25 mct_35 mtk_35) H := hP
      have hD : va_D A (RSw cI cZ b0 bR bI bC bY bZ bF bL bN bX bT mcd_25 mwd men mR mI mC mY mZ mF mmd mhi mL mN mfr mX_35 mT_25 mct_35 mtk_35) := hD
      refine lv_aload_n hx hb d_R_reaches_38 rfl (lv_at hl 0 rfl) ?_
      refine lv_aload_n hx hb d_R_reaches_39 rfl (lv_at hl 0 rfl) ?_
      refine va_get (D := (dC, dI)) (ci := 2) (v := .ref bR) (C := R_R) (T := T_R) (N := 18) hx hb hw in_R hown hK hP 0 rfl rfl 3 (by decide) (hw _ wd_619) (fun _ h9 => h9) rfl d_R_reaches_40 ?_
      refine lv_iload_n hx hb d_R_reaches_43 rfl (lv_at hl 1 rfl) ?_
      refine va_iald hx hb hK hP 1 0 rfl rfl h.1 d_R_reaches_44 ?_
      have h := h.2
      have hFc := va_free (wc := RSw cI cZ b0 bR bI bC bY bZ bF bL bN bX bT mcd_25 mwd men mR mI mC mY mZ mF mmd mhi mL mN mfr mX_35 mT_25 mct_35 mtk_35) hD hS hA [0, 1, 2, 3, 4, 5, 6, 7, 8, 9, 10] rfl
      refine va_callv (va_runV (As := [.int (mR y1_25.toNatClampNeg)]) (rest := []) ⟨hx, hb, hml, hown, hw⟩ (mR_meet l dC dI cI cZ b0 bR bI bC bY bZ bF bL bN bX bT H.size mcd_25 mwd men mR mI mC mY mZ mF mmd mhi mL mN mfr mX_35 mT_25 mct_35 mtk_35 (mR y1_25.toNatClampNeg) _ h) (cwV 1 hw g_R_69 rfl rfl rfl (by decide +kernel) ⟨Nat.le_of_ble_eq_true rfl, Nat.le_of_ble_eq_true rfl⟩) (rw_PV (ci := 2) (q0 := 0) hK hP hD rfl rfl) rfl rfl hl.1 rfl (lv_room (Nat.le_of_ble_eq_true rfl)) d_R_reaches_45 ⟨Nat.le_of_ble_eq_true rfl, Nat.le_of_ble_eq_true rfl⟩) hS (fun q _ h => hFc q h) hFc (fun u t H locs ht hvm h hB hz1 hk1 hS => ?_)
      obtain ⟨mX_45, mT_45, mct_45⟩ := u
      obtain ⟨hP, hK1, hD1⟩ := hB
      rw [ht] at hP
      have hD := hD1.weaken (fun _ _ _ q => hFc _ q)
      clear hFc hD1 hK1
      try dsimp only at h
      have hP : va_P (dC, dI) vwCl (RSw cI cZ b0 bR bI bC bY bZ bF bL bN bX bT mcd_25 mwd men mR mI mC mY mZ mF mmd mhi mL mN mfr mX_45 mT_45 mct_45 mtk_35) H := hP
      have hD : va_D A (RSw cI cZ b0 bR bI bC bY bZ bF bL bN bX bT mcd_25 mwd men mR mI mC mY mZ mF mmd mhi mL mN mfr mX_45 mT_45 mct_45 mtk_35) := hD
      refine lv_aload_n hx hb d_R_reaches_48 rfl (lv_at hl 0 rfl) ?_
      have hFc := va_free (wc := RSw cI cZ b0 bR bI bC bY bZ bF bL bN bX bT mcd_25 mwd men mR mI mC mY mZ mF mmd mhi mL mN mfr mX_45 mT_45 mct_45 mtk_35) hD hS hA [0, 1, 2, 3, 4, 5, 6, 7, 8, 9, 10] rfl
      refine va_callv (va_runV (As := []) (rest := []) ⟨hx, hb, hml, hown, hw⟩ (mR_spread l dC dI cI cZ b0 bR bI bC bY bZ bF bL bN bX bT H.size mcd_25 mwd men mR mI mC mY mZ mF mmd mhi mL mN mfr mX_45 mT_45 mct_45 mtk_35 _ h) (cwV 0 hw g_R_83 rfl rfl rfl (by decide +kernel) ⟨Nat.le_of_ble_eq_true rfl, Nat.le_of_ble_eq_true rfl⟩) (rw_PV (ci := 2) (q0 := 0) hK hP hD rfl rfl) rfl rfl hl.1 rfl (lv_room (Nat.le_of_ble_eq_true rfl)) d_R_reaches_49 ⟨Nat.le_of_ble_eq_true rfl, Nat.le_of_ble_eq_true rfl⟩) hS (fun q _ h => hFc q h) hFc (fun u t H locs ht hvm h hB hz1 hk1 hS => ?_)
      obtain ⟨mX_49, mT_49, mct_49, mtk_49⟩ := u
      obtain ⟨hP, hK1, hD1⟩ := hB
      rw [ht] at hP
      have hD := hD1.weaken (fun _ _ _ q => hFc _ q)
      clear hFc hD1 hK1
      try dsimp only at h
      have hP : va_P (dC, dI) vwCl (RSw cI cZ b0 bR bI bC bY bZ bF bL bN bX bT mcd_25 mwd men mR mI mC mY mZ mF mmd mhi mL mN mfr mX_49 mT_49 mct_49 mtk_49) H := hP
      have hD : va_D A (RSw cI cZ b0 bR bI bC bY bZ bF bL bN bX bT mcd_25 mwd men mR mI mC mY mZ mF mmd mhi mL mN mfr mX_49 mT_49 mct_49 mtk_49) := hD
      refine lv_aload_n hx hb d_R_reaches_52 rfl (lv_at hl 0 rfl) ?_
      refine va_get (D := (dC, dI)) (ci := 2) (v := .ref bX) (C := R_R) (T := T_R) (N := 18) hx hb hw in_R hown hK hP 0 rfl rfl 14 (by decide) (hw _ wd_630) (fun _ h9 => h9) rfl d_R_reaches_53 ?_
      refine lv_aload_n hx hb d_R_reaches_56 rfl (lv_at hl 0 rfl) ?_
      refine va_get (D := (dC, dI)) (ci := 2) (v := .ref bR) (C := R_R) (T := T_R) (N := 18) hx hb hw in_R hown hK hP 0 rfl rfl 3 (by decide) (hw _ wd_619) (fun _ h9 => h9) rfl d_R_reaches_57 ?_
      refine lv_iload_n hx hb d_R_reaches_60 rfl (lv_at hl 2 rfl) ?_
      refine va_iald hx hb hK hP 1 0 rfl rfl h.1 d_R_reaches_61 ?_
      have h := h.2
      refine rq_calli (W.runS (As := [.int (mR y2_25.toNatClampNeg)]) (rest := [.ref bX]) ⟨hx, hb, hml, hown, hw⟩ (mR_placeOf l (mR y2_25.toNatClampNeg) _ h) (va_cwS 1 hw g_R_62 rfl rfl rfl (by decide +kernel) ⟨Nat.le_of_ble_eq_true rfl, Nat.le_of_ble_eq_true rfl⟩) preEq rfl rfl hl.1 rfl (lv_room (Nat.le_of_ble_eq_true rfl)) d_R_reaches_62 ⟨Nat.le_of_ble_eq_true rfl, Nat.le_of_ble_eq_true rfl⟩) (fun r62 h => ?_)
      refine va_zald hx hb hK hP 9 1 rfl rfl h.1 d_R_reaches_65 ?_
      have h := h.2
      exact W.zret (v := mX_49 r62.toNatClampNeg) (ty := .boolean) hx hb hr9 h.1 (fun t ht hW => ⟨⟨_, (mcd_25, mX_49, mT_49, mct_49, mtk_49), rfl, h.2, by rw [ht]; exact hP, va_K.moved hW.alike hK, hD⟩, hS.F ht⟩) hS.2.2 d_R_reaches_66
    · have h := h.2 c_29
      refine lv_iconst (v := (0 : Int32)) hx hb d_R_reaches_32 (by decide) ?_
      exact W.zret (v := (0 : Int32)) (ty := .boolean) hx hb hr9 rfl (fun t ht hW => ⟨⟨_, (mcd_25, mX_25, mT_25, mct_25, mtk_25), rfl, h, by rw [ht]; exact hP, va_K.moved hW.alike hK, hD⟩, hS.F ht⟩) hS.2.2 d_R_reaches_33
  unfold wqR_reaches at h
  refine lv_aload_n hx hb d_R_reaches_0 rfl (lv_at hl 0 rfl) ?_
  refine lv_aload_n hx hb d_R_reaches_1 rfl (lv_at hl 0 rfl) ?_
  refine lv_iload_n hx hb d_R_reaches_2 rfl (lv_at hl 1 rfl) ?_
  refine rq_calli (W.runV (As := [.int a1]) (rest := [.ref b0]) ⟨hx, hb, hml, hown, hw⟩ (mR_has l dC dI cI cZ b0 bR bI bC bY bZ bF bL bN bX bT mcd mwd men mR mI mC mY mZ mF mmd mhi mL mN mfr mX mT mct mtk a1 _ h) (cwV 1 hw g_R_59 rfl rfl rfl (by decide +kernel) ⟨Nat.le_of_ble_eq_true rfl, Nat.le_of_ble_eq_true rfl⟩) (ro_PV (ci := 2) (q0 := 0) hK hP rfl rfl) rfl rfl hl.1 rfl (lv_room (Nat.le_of_ble_eq_true rfl)) d_R_reaches_3 ⟨Nat.le_of_ble_eq_true rfl, Nat.le_of_ble_eq_true rfl⟩) (fun r3 h => ?_)
  refine lv_if_eq (tgt := 21) hx hb d_R_reaches_6 (by decide) (fun c_6 => ?_) (fun c_6 => ?_)
  · have h := h.1 c_6
    refine lv_iconst (v := (1 : Int32)) hx hb d_R_reaches_21 (by decide) ?_
    refine va_put (D := (dC, dI)) (ci := 2) (v := .int (1 : Int32)) (ty := .int) (C := R_R) (T := T_R) (N := 18) hx hb hw in_R ty_R ty_R_ok nm_R hown hK hP hD hS 0 rfl rfl 0 (by decide) (hw _ wd_616) (fun _ h9 => h9) rfl (by decide +kernel) rfl rfl (Nat.le_of_ble_eq_true rfl) d_R_reaches_22 (fun H locs hP hD hS => ?_)
    have hP : va_P (dC, dI) vwCl (RSw cI cZ b0 bR bI bC bY bZ bF bL bN bX bT (1 : Int32) mwd men mR mI mC mY mZ mF mmd mhi mL mN mfr mX mT mct mtk) H := hP
    have hD : va_D A (RSw cI cZ b0 bR bI bC bY bZ bF bL bN bX bT (1 : Int32) mwd men mR mI mC mY mZ mF mmd mhi mL mN mfr mX mT mct mtk) := hD
    exact lp_25 a1 a2 (1 : Int32) mX mT mct mtk H locs ls hP hD hS (lv_sub hl [0, 1, 2] rfl) h
  · have h := h.2 c_6
    refine lv_aload_n hx hb d_R_reaches_9 rfl (lv_at hl 0 rfl) ?_
    refine lv_iload_n hx hb d_R_reaches_10 rfl (lv_at hl 2 rfl) ?_
    refine rq_calli (W.runV (As := [.int a2]) (rest := [.ref b0]) ⟨hx, hb, hml, hown, hw⟩ (mR_has l dC dI cI cZ b0 bR bI bC bY bZ bF bL bN bX bT mcd mwd men mR mI mC mY mZ mF mmd mhi mL mN mfr mX mT mct mtk a2 _ h) (cwV 1 hw g_R_59 rfl rfl rfl (by decide +kernel) ⟨Nat.le_of_ble_eq_true rfl, Nat.le_of_ble_eq_true rfl⟩) (ro_PV (ci := 2) (q0 := 0) hK hP rfl rfl) rfl rfl hl.1 rfl (lv_room (Nat.le_of_ble_eq_true rfl)) d_R_reaches_11 ⟨Nat.le_of_ble_eq_true rfl, Nat.le_of_ble_eq_true rfl⟩) (fun r11 h => ?_)
    refine lv_if_eq (tgt := 21) hx hb d_R_reaches_14 (by decide) (fun c_14 => ?_) (fun c_14 => ?_)
    · have h := h.1 c_14
      refine lv_iconst (v := (1 : Int32)) hx hb d_R_reaches_21 (by decide) ?_
      refine va_put (D := (dC, dI)) (ci := 2) (v := .int (1 : Int32)) (ty := .int) (C := R_R) (T := T_R) (N := 18) hx hb hw in_R ty_R ty_R_ok nm_R hown hK hP hD hS 0 rfl rfl 0 (by decide) (hw _ wd_616) (fun _ h9 => h9) rfl (by decide +kernel) rfl rfl (Nat.le_of_ble_eq_true rfl) d_R_reaches_22 (fun H locs hP hD hS => ?_)
      have hP : va_P (dC, dI) vwCl (RSw cI cZ b0 bR bI bC bY bZ bF bL bN bX bT (1 : Int32) mwd men mR mI mC mY mZ mF mmd mhi mL mN mfr mX mT mct mtk) H := hP
      have hD : va_D A (RSw cI cZ b0 bR bI bC bY bZ bF bL bN bX bT (1 : Int32) mwd men mR mI mC mY mZ mF mmd mhi mL mN mfr mX mT mct mtk) := hD
      exact lp_25 a1 a2 (1 : Int32) mX mT mct mtk H locs ls hP hD hS (lv_sub hl [0, 1, 2] rfl) h
    · have h := h.2 c_14
      refine lv_iconst (v := (0 : Int32)) hx hb d_R_reaches_17 (by decide) ?_
      refine lv_goto (tgt := 22) hx hb d_R_reaches_18 (by decide) ?_
      refine va_put (D := (dC, dI)) (ci := 2) (v := .int (0 : Int32)) (ty := .int) (C := R_R) (T := T_R) (N := 18) hx hb hw in_R ty_R ty_R_ok nm_R hown hK hP hD hS 0 rfl rfl 0 (by decide) (hw _ wd_616) (fun _ h9 => h9) rfl (by decide +kernel) rfl rfl (Nat.le_of_ble_eq_true rfl) d_R_reaches_22 (fun H locs hP hD hS => ?_)
      have hP : va_P (dC, dI) vwCl (RSw cI cZ b0 bR bI bC bY bZ bF bL bN bX bT (0 : Int32) mwd men mR mI mC mY mZ mF mmd mhi mL mN mfr mX mT mct mtk) H := hP
      have hD : va_D A (RSw cI cZ b0 bR bI bC bY bZ bF bL bN bX bT (0 : Int32) mwd men mR mI mC mY mZ mF mmd mhi mL mN mfr mX mT mct mtk) := hD
      exact lp_25 a1 a2 (0 : Int32) mX mT mct mtk H locs ls hP hD hS (lv_sub hl [0, 1, 2] rfl) h

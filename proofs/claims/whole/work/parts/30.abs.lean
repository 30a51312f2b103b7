/-! what a store means: registers and objects by identity; a value is a number or nil as it stands, or an identity -/
abbrev AV_ : Type := Int32 ⊕ Nat
/-- class, shape, slots, bytes -/
abbrev AO_ : Type := AV_ × Nat × List AV_ × List Int32
def zo_idof (os : List Ob_) (e : Nat) : Nat := match os.find? (fun o => decide (oE o = e)) with
  | some o => oI o
  | none => 0
def zv_ (os : List Ob_) (v : Int32) : AV_ := match zo_dec v with
  | none => .inl v
  | some e => .inr (zo_idof os e)
theorem zo_idof_of {os : List Ob_} {o : Ob_} (hn : (os.map oE).Nodup) (ho : o ∈ os) : zo_idof os (oE o) = oI o := by
  unfold zo_idof
  cases h : os.find? (fun x => decide (oE x = oE o)) with
  | none =>
    have := List.find?_eq_none.mp h o ho
    simp at this
  | some x =>
    have h1 := List.find?_some h
    have h2 := List.mem_of_find?_eq_some h
    have h3 : oE x = oE o := of_decide_eq_true h1
    rw [zo_one hn h2 ho h3]
theorem zv_ov {os : List Ob_} {o : Ob_} (hn : (os.map oE).Nodup) (ho : o ∈ os) (he : oE o < 8192) : zv_ os (ov_ (oE o)) = .inr (oI o) := by
  unfold zv_
  rw [zo_dec_ov he]
  show Sum.inr (zo_idof os (oE o)) = _
  rw [zo_idof_of hn ho]
theorem zv_n {os : List Ob_} {v : Int32} (hv : v = 0 ∨ ¬ v &&& (1 : Int32) = 0) : zv_ os v = .inl v := by
  unfold zv_
  rw [zo_dec_n hv]
/-- what a method may take for granted of the objects and registers -/
def zo_wf (os : List Ob_) (R : Nat → Int32) : Prop :=
  (os.map oE).Nodup ∧ (∀ o ∈ os, oE o < 8192) ∧ (∀ o ∈ os, ∀ v ∈ zo_kids o, zo_Vo os v) ∧ (∀ r, r < 32 → zo_Vo os (R r)) ∧ (os.map oI).Nodup ∧ (∀ o ∈ os, (oB o).length = bW_ (oH o))
def zo_ao (bx : List Int32 → Nat → Int32) (os : List Ob_) (o : Ob_) : AO_ := (zv_ os (oC o), oH o, (zo_slots o).map (zv_ os), if oH o % 2 = 1 then (List.range (oH o / 2)).map (bx (oB o)) else [])
def g_kids (a : AO_) : List AV_ := a.1 :: a.2.2.1
def g_reach (gr : Nat → AV_) (go : Nat → AO_) (i : Nat) : Prop := ∀ X : Nat → Prop, (∀ r, r < 32 → ∀ j, gr r = .inr j → X j) → (∀ k, X k → ∀ j, Sum.inr j ∈ g_kids (go k) → X j) → X i
/-- objects os and registers R stand for the store gr, go -/
def zo_abs (bx : List Int32 → Nat → Int32) (os : List Ob_) (R : Nat → Int32) (gr : Nat → AV_) (go : Nat → AO_) : Prop :=
  (∀ r, r < 32 → zv_ os (R r) = gr r) ∧ ∀ o ∈ os, zo_reach os R (oE o) → zo_ao bx os o = go (oI o)
theorem zo_reach_root {os : List Ob_} {R : Nat → Int32} {r e : Nat} (hr : r < 32) (h : zo_dec (R r) = some e) : zo_reach os R e := fun _ hX _ => hX r hr e h
theorem zo_reach_kid {os : List Ob_} {R : Nat → Int32} {o : Ob_} {v : Int32} {e : Nat} (ho : o ∈ os) (h : zo_reach os R (oE o)) (hv : v ∈ zo_kids o) (hd : zo_dec v = some e) : zo_reach os R e := fun X hX hc => hc o ho (h X hX hc) v hv e hd
theorem zo_Vo.of {os : List Ob_} {v : Int32} {e : Nat} (h8 : ∀ o ∈ os, oE o < 8192) (h : zo_Vo os v) (hd : zo_dec v = some e) : ∃ o ∈ os, oE o = e ∧ v = ov_ e := by
  rcases h with h | ⟨o, ho, rfl⟩
  · rw [zo_dec_n h] at hd; cases hd
  · rw [zo_dec_ov (h8 o ho)] at hd
    cases hd
    exact ⟨o, ho, rfl, rfl⟩
theorem zo_ao_kids {bx : List Int32 → Nat → Int32} {os : List Ob_} {o : Ob_} : g_kids (zo_ao bx os o) = (zo_kids o).map (zv_ os) := rfl
/-- what is reached here is reached there .. -/
theorem zo_to_g {bx : List Int32 → Nat → Int32} {os : List Ob_} {R : Nat → Int32} {gr : Nat → AV_} {go : Nat → AO_} (hw : zo_wf os R) (h : zo_abs bx os R gr go) {o : Ob_} (ho : o ∈ os) (hr : zo_reach os R (oE o)) : g_reach gr go (oI o) := by
  obtain ⟨w1, w2, w3, w4, w5, w6⟩ := hw
  obtain ⟨h1, h2⟩ := h
  have key : ∃ o' ∈ os, oE o' = oE o ∧ zo_reach os R (oE o') ∧ g_reach gr go (oI o') := by
    refine hr (fun e => ∃ o' ∈ os, oE o' = e ∧ zo_reach os R (oE o') ∧ g_reach gr go (oI o')) ?_ ?_
    · intro r hr' e hd
      obtain ⟨o', ho', he, hv⟩ := (w4 r hr').of w2 hd
      refine ⟨o', ho', he, by rw [he]; exact zo_reach_root hr' hd, fun X hX _ => hX r hr' _ ?_⟩
      rw [← h1 r hr', hv, ← he, zv_ov w1 ho' (w2 o' ho')]
    · rintro x hx ⟨o', ho', he, hr', hg⟩ v hv e hd
      have hxo : o' = x := zo_one w1 ho' hx he
      subst hxo
      obtain ⟨o2, ho2, he2, hv2⟩ := (w3 o' hx v hv).of w2 hd
      refine ⟨o2, ho2, he2, by rw [he2]; exact zo_reach_kid hx hr' hv hd, fun X hX hc => hc (oI o') (hg X hX hc) _ ?_⟩
      rw [← h2 o' hx hr', zo_ao_kids]
      refine List.mem_map.mpr ⟨v, hv, ?_⟩
      rw [hv2, ← he2, zv_ov w1 ho2 (w2 o2 ho2)]
  obtain ⟨o', ho', he, -, hg⟩ := key
  rw [← zo_one w1 ho' ho he]
  exact hg
/-- .. and the other way round -/
theorem g_to_zo {bx : List Int32 → Nat → Int32} {os : List Ob_} {R : Nat → Int32} {gr : Nat → AV_} {go : Nat → AO_} (hw : zo_wf os R) (h : zo_abs bx os R gr go) {i : Nat} (hg : g_reach gr go i) : ∃ o ∈ os, oI o = i ∧ zo_reach os R (oE o) := by
  obtain ⟨w1, w2, w3, w4, w5, w6⟩ := hw
  obtain ⟨h1, h2⟩ := h
  have hval : ∀ v, zo_Vo os v → ∀ j, zv_ os v = .inr j → ∃ o ∈ os, oI o = j ∧ zo_dec v = some (oE o) := by
    intro v hv j hj
    rcases hv with q | ⟨o, ho, rfl⟩
    · rw [zv_n q] at hj; cases hj
    · rw [zv_ov w1 ho (w2 o ho)] at hj
      cases hj
      exact ⟨o, ho, rfl, zo_dec_ov (w2 o ho)⟩
  refine hg (fun i => ∃ o ∈ os, oI o = i ∧ zo_reach os R (oE o)) ?_ ?_
  · intro r hr j hj
    rw [← h1 r hr] at hj
    obtain ⟨o, ho, hi, hd⟩ := hval _ (w4 r hr) j hj
    exact ⟨o, ho, hi, zo_reach_root hr hd⟩
  · rintro k ⟨o, ho, rfl, hr⟩ j hj
    rw [← h2 o ho hr, zo_ao_kids] at hj
    obtain ⟨v, hv, hvj⟩ := List.mem_map.mp hj
    obtain ⟨o2, ho2, hi, hd⟩ := hval v (w3 o ho v hv) j hvj
    exact ⟨o2, ho2, hi, zo_reach_kid ho hr hv hd⟩
theorem zo_id_one {os : List Ob_} (h : (os.map oI).Nodup) {a b : Ob_} (ha : a ∈ os) (hb : b ∈ os) (e : oI a = oI b) : a = b := by
  obtain ⟨pre, post, rfl⟩ := zo_split ha
  rw [List.map_append, List.map_cons, List.nodup_append] at h
  obtain ⟨-, h2, h3⟩ := h
  rcases List.mem_append.mp hb with q | q
  · exact absurd e.symm (h3 (oI b) (List.mem_map_of_mem q) (oI a) List.mem_cons_self)
  · rcases List.mem_cons.mp q with q | q
    · exact q.symm
    · have := (List.nodup_cons.mp h2).1
      exact absurd (by rw [e]; exact List.mem_map_of_mem q) this
/-- values that mean the same are the same -/
theorem zv_inj {os : List Ob_} (h1 : (os.map oE).Nodup) (h2 : ∀ o ∈ os, oE o < 8192) (h3 : (os.map oI).Nodup) {v w : Int32} (hv : zo_Vo os v) (hw : zo_Vo os w) (h : zv_ os v = zv_ os w) : v = w := by
  rcases hv with q | ⟨o, ho, rfl⟩
  · rcases hw with q' | ⟨o', ho', rfl⟩
    · rw [zv_n q, zv_n q'] at h
      cases h; rfl
    · rw [zv_n q, zv_ov h1 ho' (h2 o' ho')] at h
      cases h
  · rcases hw with q' | ⟨o', ho', rfl⟩
    · rw [zv_n q', zv_ov h1 ho (h2 o ho)] at h
      cases h
    · rw [zv_ov h1 ho (h2 o ho), zv_ov h1 ho' (h2 o' ho')] at h
      have : oI o = oI o' := Sum.inr.inj h
      rw [zo_id_one h3 ho ho' this]
/-- a value that leads to nothing but what is reached -/
def zo_ok (os : List Ob_) (R : Nat → Int32) (v : Int32) : Prop := zo_Vo os v ∧ ∀ e, zo_dec v = some e → zo_reach os R e
theorem zo_ok_reg {os : List Ob_} {R : Nat → Int32} {r : Nat} (hw : zo_wf os R) (hr : r < 32) : zo_ok os R (R r) := ⟨hw.2.2.2.1 r hr, fun _ h => zo_reach_root hr h⟩
theorem zo_ok_n {os : List Ob_} {R : Nat → Int32} {v : Int32} (hv : v = 0 ∨ ¬ v &&& (1 : Int32) = 0) : zo_ok os R v := ⟨Or.inl hv, fun _ h => by rw [zo_dec_n hv] at h; cases h⟩
theorem zo_ok_kid {os : List Ob_} {R : Nat → Int32} {o : Ob_} {v : Int32} (hw : zo_wf os R) (ho : o ∈ os) (hr : zo_reach os R (oE o)) (hv : v ∈ zo_kids o) : zo_ok os R v := ⟨hw.2.2.1 o ho v hv, fun _ h => zo_reach_kid ho hr hv h⟩
def g_set {α : Type} (g : Nat → α) (k : Nat) (a : α) : Nat → α := fun j => if j = k then a else g j
theorem g_set_s {α : Type} {g : Nat → α} {k : Nat} {a : α} : g_set g k a k = a := by unfold g_set; rw [if_pos rfl]
theorem g_set_n {α : Type} {g : Nat → α} {k j : Nat} {a : α} (h : j ≠ k) : g_set g k a j = g j := by unfold g_set; rw [if_neg h]
/-- a register is set to what can be reached -/
theorem zo_reg {bx : List Int32 → Nat → Int32} {os : List Ob_} {R : Nat → Int32} {gr : Nat → AV_} {go : Nat → AO_} {v : Int32} {r : Nat} (hw : zo_wf os R) (h : zo_abs bx os R gr go) (hv : zo_ok os R v) :
    zo_wf os (upd R r v) ∧ zo_abs bx os (upd R r v) (g_set gr r (zv_ os v)) go ∧ (∀ e, zo_reach os (upd R r v) e → zo_reach os R e) := by
  have hre : ∀ e, zo_reach os (upd R r v) e → zo_reach os R e := by
    intro e he X hX hc
    refine he X ?_ hc
    intro k hk e' hd
    by_cases hkr : k = r
    · subst hkr
      rw [pk_us] at hd
      exact hv.2 e' hd X hX hc
    · rw [pk_un hkr] at hd
      exact hX k hk e' hd
  obtain ⟨w1, w2, w3, w4, w5, w6⟩ := hw
  refine ⟨⟨w1, w2, w3, ?_, w5, w6⟩, ⟨?_, fun o ho hr => h.2 o ho (hre _ hr)⟩, hre⟩
  · intro k hk
    by_cases hkr : k = r
    · subst hkr; rw [pk_us]; exact hv.1
    · rw [pk_un hkr]; exact w4 k hk
  · intro k hk
    by_cases hkr : k = r
    · subst hkr; rw [pk_us, g_set_s]
    · rw [pk_un hkr, g_set_n hkr]; exact h.1 k hk

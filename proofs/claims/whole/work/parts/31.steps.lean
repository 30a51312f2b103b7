/-! how a store changes: an object is changed, made, what isn't reached goes, two objects change places -/
theorem zo_idof_eq : ∀ (os os' : List Ob_) (e : Nat), os.map (fun o => (oE o, oI o)) = os'.map (fun o => (oE o, oI o)) → zo_idof os e = zo_idof os' e := by
  intro os
  induction os with
  | nil =>
    intro os' e h
    cases os' with
    | nil => rfl
    | cons a l => simp at h
  | cons o os ih =>
    intro os' e h
    cases os' with
    | nil => simp at h
    | cons a l =>
      simp only [List.map_cons, List.cons.injEq, Prod.mk.injEq] at h
      obtain ⟨⟨h1, h2⟩, h3⟩ := h
      have := ih l e h3
      unfold zo_idof at this ⊢
      rw [List.find?_cons, List.find?_cons, h1]
      by_cases c : oE a = e
      · simp [c, h2]
      · simp [c]
        exact this
theorem zv_eq {os os' : List Ob_} (h : os.map (fun o => (oE o, oI o)) = os'.map (fun o => (oE o, oI o))) (v : Int32) : zv_ os v = zv_ os' v := by
  unfold zv_
  split
  · rfl
  · rw [zo_idof_eq os os' _ h]
theorem zo_Vo_eq {os os' : List Ob_} (h : ∀ x, x ∈ os.map oE → x ∈ os'.map oE) {v : Int32} (hv : zo_Vo os v) : zo_Vo os' v := by
  rcases hv with q | ⟨o, ho, rfl⟩
  · exact Or.inl q
  · obtain ⟨o', ho', e⟩ := List.mem_map.mp (h _ (List.mem_map_of_mem ho))
    exact Or.inr ⟨o', ho', by rw [← e]⟩
theorem zo_ao_eq {bx : List Int32 → Nat → Int32} {os os' : List Ob_} {o : Ob_} (h : ∀ v ∈ zo_kids o, zv_ os v = zv_ os' v) : zo_ao bx os o = zo_ao bx os' o := by
  unfold zo_ao
  rw [h _ List.mem_cons_self, List.map_congr_left (fun v hv => h v (List.mem_cons_of_mem _ hv))]
/-- an object that is reached is changed -/
theorem zo_mod {bx : List Int32 → Nat → Int32} {pre post : List Ob_} {o o' : Ob_} {R : Nat → Int32} {gr : Nat → AV_} {go : Nat → AO_} (hE : oE o' = oE o) (hI : oI o' = oI o) (hb : (oB o').length = bW_ (oH o')) (hw : zo_wf (pre ++ o :: post) R) (h : zo_abs bx (pre ++ o :: post) R gr go)
    (hk : ∀ v ∈ zo_kids o', zo_ok (pre ++ o :: post) R v) :
    zo_wf (pre ++ o' :: post) R ∧ zo_abs bx (pre ++ o' :: post) R gr (g_set go (oI o) (zo_ao bx (pre ++ o :: post) o')) ∧ (∀ e, zo_reach (pre ++ o' :: post) R e → zo_reach (pre ++ o :: post) R e) := by
  obtain ⟨w1, w2, w3, w4, w5, w6⟩ := id hw
  have mE : (pre ++ o' :: post).map oE = (pre ++ o :: post).map oE := by simp only [List.map_append, List.map_cons]; rw [hE]
  have mI : (pre ++ o' :: post).map oI = (pre ++ o :: post).map oI := by simp only [List.map_append, List.map_cons]; rw [hI]
  have mP : (pre ++ o' :: post).map (fun o => (oE o, oI o)) = (pre ++ o :: post).map (fun o => (oE o, oI o)) := by simp only [List.map_append, List.map_cons]; rw [hE, hI]
  have hz : ∀ v, zv_ (pre ++ o' :: post) v = zv_ (pre ++ o :: post) v := zv_eq mP
  have hmem : ∀ x, x ∈ pre ++ o' :: post → x = o' ∨ (x ∈ pre ++ o :: post ∧ x ≠ o) := by
    intro x hx
    rcases List.mem_append.mp hx with q | q
    · refine Or.inr ⟨List.mem_append_left _ q, fun e => ?_⟩
      subst e
      rw [List.map_append, List.nodup_append] at w1
      exact w1.2.2 (oE x) (List.mem_map_of_mem q) (oE x) (by simp) rfl
    · rcases List.mem_cons.mp q with q | q
      · exact Or.inl q
      · refine Or.inr ⟨List.mem_append_right _ (List.mem_cons_of_mem _ q), fun e => ?_⟩
        subst e
        rw [List.map_append, List.nodup_append, List.map_cons, List.nodup_cons] at w1
        exact w1.2.1.1 (List.mem_map_of_mem q)
  have hom : o ∈ pre ++ o :: post := by simp
  have hVV : ∀ {v}, zo_Vo (pre ++ o :: post) v → zo_Vo (pre ++ o' :: post) v := fun hv => zo_Vo_eq (fun x hx => by rw [mE]; exact hx) hv
  have hre : ∀ e, zo_reach (pre ++ o' :: post) R e → zo_reach (pre ++ o :: post) R e := by
    intro e he
    refine he (fun e => zo_reach (pre ++ o :: post) R e) (fun r hr e' hd => zo_reach_root hr hd) ?_
    intro x hx hrx v hv e' hd
    rcases hmem x hx with q | ⟨q, -⟩
    · subst q
      exact (hk v hv).2 e' hd
    · exact zo_reach_kid q hrx hv hd
  refine ⟨⟨by rw [mE]; exact w1, ?_, ?_, fun r hr => hVV (w4 r hr), by rw [mI]; exact w5, ?_⟩, ⟨fun r hr => by rw [hz]; exact h.1 r hr, ?_⟩, hre⟩
  · intro x hx
    rcases hmem x hx with q | ⟨q, -⟩
    · subst q; rw [hE]; exact w2 o hom
    · exact w2 x q
  · intro x hx v hv
    rcases hmem x hx with q | ⟨q, -⟩
    · subst q; exact hVV (hk v hv).1
    · exact hVV (w3 x q v hv)
  · intro x hx
    rcases hmem x hx with q | ⟨q, -⟩
    · subst q; exact hb
    · exact w6 x q
  · intro x hx hr
    rw [zo_ao_eq (os' := pre ++ o :: post) (fun v _ => hz v)]
    rcases hmem x hx with q | ⟨q, hne⟩
    · subst q
      rw [hI, g_set_s]
    · rw [g_set_n (fun e => hne (zo_id_one w5 q hom e))]
      exact h.2 x q (hre _ hr)
theorem zo_idof_app {os : List Ob_} {n : Ob_} {e : Nat} (h : e ≠ oE n) : zo_idof (os ++ [n]) e = zo_idof os e := by
  unfold zo_idof
  rw [List.find?_append]
  cases hf : os.find? (fun o => decide (oE o = e)) with
  | some x => rfl
  | none => simp [Ne.symm h]
theorem zv_app {os : List Ob_} {n : Ob_} {v : Int32} (h2 : ∀ o ∈ os, oE o < 8192) (hne : ∀ x ∈ os, oE x ≠ oE n) (hv : zo_Vo os v) : zv_ (os ++ [n]) v = zv_ os v := by
  rcases hv with q | ⟨o, ho, rfl⟩
  · rw [zv_n q, zv_n q]
  · unfold zv_
    rw [zo_dec_ov (h2 o ho)]
    show Sum.inr _ = Sum.inr _
    rw [zo_idof_app (hne o ho)]
/-- an object is made, and a register has it -/
theorem zo_born {bx : List Int32 → Nat → Int32} {os : List Ob_} {n : Ob_} {R : Nat → Int32} {r : Nat} {gr : Nat → AV_} {go : Nat → AO_} (hw : zo_wf os R) (h : zo_abs bx os R gr go) (hr : r < 32) (hE : oE n < 8192) (hne : ∀ x ∈ os, oE x ≠ oE n) (hni : ∀ x ∈ os, oI x ≠ oI n) (hb : (oB n).length = bW_ (oH n)) (hk : ∀ v ∈ zo_kids n, zo_ok os R v) :
    zo_wf (os ++ [n]) (upd R r (ov_ (oE n))) ∧ zo_abs bx (os ++ [n]) (upd R r (ov_ (oE n))) (g_set gr r (.inr (oI n))) (g_set go (oI n) (zo_ao bx os n)) ∧ (∀ e, zo_reach (os ++ [n]) (upd R r (ov_ (oE n))) e → e = oE n ∨ zo_reach os R e) := by
  obtain ⟨w1, w2, w3, w4, w5, w6⟩ := id hw
  have hnd : ((os ++ [n]).map oE).Nodup := by
    rw [List.map_append, List.nodup_append]
    refine ⟨w1, by simp, ?_⟩
    intro a ha b hb'
    obtain ⟨x, hx, rfl⟩ := List.mem_map.mp ha
    have : b = oE n := by simpa using hb'
    subst this
    exact hne x hx
  have hre : ∀ e, zo_reach (os ++ [n]) (upd R r (ov_ (oE n))) e → e = oE n ∨ zo_reach os R e := by
    intro e he
    refine he (fun e => e = oE n ∨ zo_reach os R e) ?_ ?_
    · intro k hk' e' hd
      by_cases hkr : k = r
      · subst hkr
        rw [pk_us, zo_dec_ov hE] at hd
        exact Or.inl (Option.some.inj hd).symm
      · rw [pk_un hkr] at hd
        exact Or.inr (zo_reach_root hk' hd)
    · intro x hx hrx v hv e' hd
      rcases List.mem_append.mp hx with q | q
      · rcases hrx with q' | q'
        · exact absurd q' (hne x q)
        · exact Or.inr (zo_reach_kid q q' hv hd)
      · have : x = n := by simpa using q
        subst this
        exact Or.inr ((hk v hv).2 e' hd)
  refine ⟨⟨hnd, ?_, ?_, ?_, ?_, ?_⟩, ⟨?_, ?_⟩, hre⟩
  · intro x hx
    rcases List.mem_append.mp hx with q | q
    · exact w2 x q
    · have : x = n := by simpa using q
      subst this; exact hE
  · intro x hx v hv
    rcases List.mem_append.mp hx with q | q
    · exact zo_Vo_mono (w3 x q v hv)
    · have : x = n := by simpa using q
      subst this; exact zo_Vo_mono (hk v hv).1
  · intro k hk'
    by_cases hkr : k = r
    · subst hkr; rw [pk_us]; exact Or.inr ⟨n, by simp, rfl⟩
    · rw [pk_un hkr]; exact zo_Vo_mono (w4 k hk')
  · rw [List.map_append, List.nodup_append]
    refine ⟨w5, by simp, ?_⟩
    intro a ha b hb'
    obtain ⟨x, hx, rfl⟩ := List.mem_map.mp ha
    have : b = oI n := by simpa using hb'
    subst this
    exact hni x hx
  · intro x hx
    rcases List.mem_append.mp hx with q | q
    · exact w6 x q
    · have : x = n := by simpa using q
      subst this; exact hb
  · intro k hk'
    by_cases hkr : k = r
    · subst hkr; rw [pk_us, g_set_s, zv_ov hnd (by simp) hE]
    · rw [pk_un hkr, g_set_n hkr, zv_app w2 hne (w4 k hk')]; exact h.1 k hk'
  · intro x hx hrx
    rcases List.mem_append.mp hx with q | q
    · rw [g_set_n (hni x q), zo_ao_eq (os' := os) (fun v hv => zv_app w2 hne (w3 x q v hv))]
      rcases hre _ hrx with q' | q'
      · exact absurd q' (hne x q)
      · exact h.2 x q q'
    · have : x = n := by simpa using q
      subst this
      rw [g_set_s]
      exact zo_ao_eq (fun v hv => zv_app w2 hne (hk v hv).1)
theorem zo_reach_sub {os os' : List Ob_} {R : Nat → Int32} {e : Nat} (hs : ∀ x ∈ os', x ∈ os) (h : zo_reach os' R e) : zo_reach os R e := fun X hX hc => h X hX (fun o ho => hc o (hs o ho))
/-- what isn't reached goes -/
theorem zo_gc {bx : List Int32 → Nat → Int32} {os : List Ob_} {R : Nat → Int32} {gr : Nat → AV_} {go : Nat → AO_} {g : Ob_ → Bool} (hw : zo_wf os R) (h : zo_abs bx os R gr go) (hg : ∀ o ∈ os, g o = true ↔ zo_reach os R (oE o)) :
    zo_wf (os.filter g) R ∧ zo_abs bx (os.filter g) R gr go ∧ (∀ o ∈ os.filter g, zo_reach (os.filter g) R (oE o)) := by
  obtain ⟨w1, w2, w3, w4, w5, w6⟩ := id hw
  have hs : (os.filter g).Sublist os := List.filter_sublist
  have hV : ∀ v, zo_ok os R v → zo_Vo (os.filter g) v ∧ zv_ (os.filter g) v = zv_ os v := by
    intro v hv
    rcases hv.1 with q | ⟨o, ho, rfl⟩
    · exact ⟨Or.inl q, by rw [zv_n q, zv_n q]⟩
    · have ho' : o ∈ os.filter g := List.mem_filter.mpr ⟨ho, (hg o ho).mpr (hv.2 _ (zo_dec_ov (w2 o ho)))⟩
      exact ⟨Or.inr ⟨o, ho', rfl⟩, by rw [zv_ov ((hs.map oE).nodup w1) ho' (w2 o ho), zv_ov w1 ho (w2 o ho)]⟩
  have hkid : ∀ o ∈ os.filter g, ∀ v ∈ zo_kids o, zo_ok os R v := fun o ho v hv => zo_ok_kid hw (hs.mem ho) ((hg o (hs.mem ho)).mp (List.mem_filter.mp ho).2) hv
  refine ⟨⟨(hs.map oE).nodup w1, fun o ho => w2 o (hs.mem ho), fun o ho v hv => (hV v (hkid o ho v hv)).1, fun r hr => (hV _ (zo_ok_reg hw hr)).1, (hs.map oI).nodup w5, fun o ho => w6 o (hs.mem ho)⟩, ⟨fun r hr => by rw [(hV _ (zo_ok_reg hw hr)).2]; exact h.1 r hr, ?_⟩, ?_⟩
  · intro o ho _
    rw [zo_ao_eq (os' := os) (fun v hv => (hV v (hkid o ho v hv)).2)]
    exact h.2 o (hs.mem ho) ((hg o (hs.mem ho)).mp (List.mem_filter.mp ho).2)
  · intro o ho
    have hr := (hg o (hs.mem ho)).mp (List.mem_filter.mp ho).2
    have := hr (fun e => zo_reach os R e ∧ zo_reach (os.filter g) R e) (fun r hr' e hd => ⟨zo_reach_root hr' hd, zo_reach_root hr' hd⟩) ?_
    · exact this.2
    · rintro x hx ⟨h1, h2⟩ v hv e hd
      exact ⟨zo_reach_kid hx h1 hv hd, zo_reach_kid (List.mem_filter.mpr ⟨hx, (hg x hx).mpr h1⟩) h2 hv hd⟩
theorem zo_nd_map {α β : Type} {f : α → β} (hf : ∀ x y, f x = f y → x = y) {l : List α} (h : l.Nodup) : (l.map f).Nodup := by
  induction l with
  | nil => simp
  | cons a l ih =>
    rw [List.nodup_cons] at h
    rw [List.map_cons, List.nodup_cons]
    refine ⟨fun hm => ?_, ih h.2⟩
    obtain ⟨x, hx, e⟩ := List.mem_map.mp hm
    rw [hf x a e] at hx
    exact h.1 hx
/-- two entries change places -/
def zo_sw (a b e : Nat) : Nat := if e = a then b else if e = b then a else e
theorem zo_sw_sw (a b e : Nat) : zo_sw a b (zo_sw a b e) = e := by
  unfold zo_sw
  split <;> split <;> (try split) <;> omega
def zo_swo (a b : Nat) (o : Ob_) : Ob_ := (zo_sw a b (oE o), o.2)
def g_sw (a b : Nat) (v : AV_) : AV_ := match v with
  | .inl x => .inl x
  | .inr i => .inr (zo_sw a b i)
def g_swo (a b : Nat) (o : AO_) : AO_ := (g_sw a b o.1, o.2.1, o.2.2.1.map (g_sw a b), o.2.2.2)
theorem zo_become {bx : List Int32 → Nat → Int32} {os : List Ob_} {a b : Ob_} {R : Nat → Int32} {gr : Nat → AV_} {go : Nat → AO_} (hw : zo_wf os R) (h : zo_abs bx os R gr go) (ha : a ∈ os) (hb : b ∈ os) {k1 k2 : Nat} (hk1 : k1 < 32) (hk2 : k2 < 32) (da : zo_dec (R k1) = some (oE a)) (db : zo_dec (R k2) = some (oE b)) :
    zo_wf (os.map (zo_swo (oE a) (oE b))) R ∧ zo_abs bx (os.map (zo_swo (oE a) (oE b))) R (fun r => g_sw (oI a) (oI b) (gr r)) (fun i => g_swo (oI a) (oI b) (go i)) ∧
    (∀ o ∈ os, zo_reach (os.map (zo_swo (oE a) (oE b))) R (oE (zo_swo (oE a) (oE b) o)) ↔ zo_reach os R (oE o)) := by
  obtain ⟨w1, w2, w3, w4, w5, w6⟩ := id hw
  have ra := zo_reach_root (os := os) hk1 da
  have rb := zo_reach_root (os := os) hk2 db
  have hsw : ∀ e, zo_reach os R e → zo_reach os R (zo_sw (oE a) (oE b) e) := by
    intro e he
    unfold zo_sw
    split
    · exact rb
    · split
      · exact ra
      · exact he
  have hmE : (os.map (zo_swo (oE a) (oE b))).map oE = (os.map oE).map (zo_sw (oE a) (oE b)) := by rw [List.map_map, List.map_map]; rfl
  have hmI : (os.map (zo_swo (oE a) (oE b))).map oI = os.map oI := by rw [List.map_map]; rfl
  have hnd : ((os.map (zo_swo (oE a) (oE b))).map oE).Nodup := by
    rw [hmE]
    exact zo_nd_map (fun x y hxy => by rw [← zo_sw_sw (oE a) (oE b) x, hxy, zo_sw_sw]) w1
  have hin : ∀ o ∈ os, ∃ o2 ∈ os, oE (zo_swo (oE a) (oE b) o2) = oE o ∧ oI o2 = zo_sw (oI a) (oI b) (oI o) := by
    intro o ho
    by_cases c1 : o = a
    · subst c1
      refine ⟨b, hb, ?_, ?_⟩
      · show zo_sw _ _ _ = _
        unfold zo_sw
        split
        · rename_i q; exact q
        · rw [if_pos rfl]
      · unfold zo_sw; rw [if_pos rfl]
    · by_cases c2 : o = b
      · subst c2
        refine ⟨a, ha, ?_, ?_⟩
        · show zo_sw _ _ _ = _
          unfold zo_sw; rw [if_pos rfl]
        · unfold zo_sw
          rw [if_neg (fun q => c1 (zo_id_one w5 ho ha q)), if_pos rfl]
      · refine ⟨o, ho, ?_, ?_⟩
        · show zo_sw _ _ _ = _
          unfold zo_sw
          rw [if_neg (fun q => c1 (zo_one w1 ho ha q)), if_neg (fun q => c2 (zo_one w1 ho hb q))]
        · unfold zo_sw
          rw [if_neg (fun q => c1 (zo_id_one w5 ho ha q)), if_neg (fun q => c2 (zo_id_one w5 ho hb q))]
  have h8 : ∀ o ∈ os.map (zo_swo (oE a) (oE b)), oE o < 8192 := by
    intro o ho
    obtain ⟨x, hx, rfl⟩ := List.mem_map.mp ho
    show zo_sw _ _ _ < _
    unfold zo_sw
    split
    · exact w2 b hb
    · split
      · exact w2 a ha
      · exact w2 x hx
  have hVV : ∀ v, zo_Vo os v → zo_Vo (os.map (zo_swo (oE a) (oE b))) v ∧ zv_ (os.map (zo_swo (oE a) (oE b))) v = g_sw (oI a) (oI b) (zv_ os v) := by
    intro v hv
    rcases hv with q | ⟨o, ho, rfl⟩
    · exact ⟨Or.inl q, by rw [zv_n q, zv_n q]; rfl⟩
    · obtain ⟨o2, ho2, e1, e2⟩ := hin o ho
      have hm := List.mem_map_of_mem (f := zo_swo (oE a) (oE b)) ho2
      refine ⟨Or.inr ⟨_, hm, by rw [e1]⟩, ?_⟩
      rw [zv_ov w1 ho (w2 o ho), ← e1, zv_ov hnd hm (h8 _ hm)]
      show Sum.inr (oI o2) = Sum.inr _
      rw [e2]
  have hre1 : ∀ e, zo_reach (os.map (zo_swo (oE a) (oE b))) R e → zo_reach os R (zo_sw (oE a) (oE b) e) := by
    intro e he
    refine he (fun e => zo_reach os R (zo_sw (oE a) (oE b) e)) (fun r hr e' hd => hsw _ (zo_reach_root hr hd)) ?_
    intro x hx hrx v hv e' hd
    obtain ⟨y, hy, rfl⟩ := List.mem_map.mp hx
    have hy' : zo_reach os R (oE y) := by
      have : zo_sw (oE a) (oE b) (oE (zo_swo (oE a) (oE b) y)) = oE y := zo_sw_sw _ _ _
      rw [this] at hrx
      exact hrx
    exact hsw _ (zo_reach_kid hy hy' hv hd)
  have hsw2 : ∀ e, zo_reach (os.map (zo_swo (oE a) (oE b))) R e → zo_reach (os.map (zo_swo (oE a) (oE b))) R (zo_sw (oE a) (oE b) e) := by
    intro e he
    unfold zo_sw
    split
    · exact zo_reach_root hk2 db
    · split
      · exact zo_reach_root hk1 da
      · exact he
  have hre2 : ∀ e, zo_reach os R e → zo_reach (os.map (zo_swo (oE a) (oE b))) R (zo_sw (oE a) (oE b) e) := by
    intro e he
    refine he (fun e => zo_reach (os.map (zo_swo (oE a) (oE b))) R (zo_sw (oE a) (oE b) e)) (fun r hr e' hd => hsw2 _ (zo_reach_root hr hd)) ?_
    intro x hx hrx v hv e' hd
    exact hsw2 _ (zo_reach_kid (o := zo_swo (oE a) (oE b) x) (List.mem_map_of_mem hx) hrx hv hd)
  refine ⟨⟨hnd, h8, ?_, fun r hr => (hVV _ (w4 r hr)).1, by rw [hmI]; exact w5, ?_⟩, ⟨fun r hr => by rw [(hVV _ (w4 r hr)).2, h.1 r hr], ?_⟩, ?_⟩
  · intro o ho v hv
    obtain ⟨x, hx, rfl⟩ := List.mem_map.mp ho
    exact (hVV v (w3 x hx v hv)).1
  · intro o ho
    obtain ⟨x, hx, rfl⟩ := List.mem_map.mp ho
    exact w6 x hx
  · intro o ho hr
    obtain ⟨x, hx, rfl⟩ := List.mem_map.mp ho
    have hrx := hre1 _ hr
    have e1 : zo_sw (oE a) (oE b) (oE (zo_swo (oE a) (oE b) x)) = oE x := zo_sw_sw _ _ _
    rw [e1] at hrx
    have hx2 := h.2 x hx hrx
    show zo_ao bx _ (zo_swo (oE a) (oE b) x) = g_swo (oI a) (oI b) (go (oI x))
    rw [← hx2]
    unfold zo_ao g_swo
    have k1 := (hVV _ (w3 x hx _ List.mem_cons_self)).2
    have k2 : (zo_slots x).map (zv_ (os.map (zo_swo (oE a) (oE b)))) = ((zo_slots x).map (zv_ os)).map (g_sw (oI a) (oI b)) := by
      rw [List.map_map]
      exact List.map_congr_left (fun v hv => (hVV v (w3 x hx v (List.mem_cons_of_mem _ hv))).2)
    show (zv_ _ (oC x), oH x, (zo_slots x).map (zv_ _), _) = _
    rw [k1, k2]
    rfl
  · intro o ho
    constructor
    · intro q
      have := hre1 _ q
      have e1 : zo_sw (oE a) (oE b) (oE (zo_swo (oE a) (oE b) o)) = oE o := zo_sw_sw _ _ _
      rw [e1] at this
      exact this
    · intro q
      exact hre2 _ q

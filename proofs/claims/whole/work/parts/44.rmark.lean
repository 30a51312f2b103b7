/-! the reference's marking; words, entries, reaches, owners -/
/-- what the reference has marked: rl, entry by entry -/
def zo_M (nE D : Nat) (rl : List Nat) (rc : Nat → Int32) (rn : Int32) (ro : Nat → Int32) : Prop :=
  rn = nI rl.length ∧ zo_is rc (rl.map nI) 0 ∧ rl.Nodup ∧ (∀ x ∈ rl, x < nE) ∧ (∀ e, e < nE → (ro e = nI D ↔ e ∈ rl)) ∧ (∀ e, e < nE → ∃ k, k ≤ D ∧ ro e = nI k)
def zo_fn (os : List Ob_) (F : Ob_ → Nat) (e : Nat) : Nat := match os.find? (fun o => decide (oE o = e)) with
  | some o => F o
  | none => 0
theorem zo_fn_of {os : List Ob_} {F : Ob_ → Nat} {o : Ob_} (hn : (os.map oE).Nodup) (ho : o ∈ os) : zo_fn os F (oE o) = F o := by
  unfold zo_fn
  cases h : os.find? (fun x => decide (oE x = oE o)) with
  | none =>
    have := List.find?_eq_none.mp h o ho
    simp at this
  | some x =>
    have h1 := List.find?_some h
    have h2 := List.mem_of_find?_eq_some h
    have h3 : oE x = oE o := of_decide_eq_true h1
    rw [zo_one hn h2 ho h3]
def zo_wt (os : List Ob_) : Nat → Nat := zo_fn os (fun o => 4 + bW_ (oH o))
theorem zo_M_add {nE D e : Nat} {rl : List Nat} {rc ro : Nat → Int32} {rn : Int32} (hM : zo_M nE D rl rc rn ro) (he : e < nE) (hout : e ∉ rl) : zo_M nE D (rl ++ [e]) (upd rc rl.length (nI e)) (nI (rl.length + 1)) (upd ro e (nI D)) ∧ rl.length < nE := by
  obtain ⟨m1, m2, m3, m4, m5, m6⟩ := id hM
  have hnd : (rl ++ [e]).Nodup := by
    rw [List.nodup_append]
    refine ⟨m3, by simp, ?_⟩
    intro a ha b hb
    rw [List.mem_singleton.mp hb]
    exact fun q => hout (q ▸ ha)
  have hlt : ∀ x ∈ rl ++ [e], x < nE := by
    intro x hx
    rcases List.mem_append.mp hx with hx | hx
    · exact m4 x hx
    · rw [List.mem_singleton.mp hx]; exact he
  have hlen := zo_pigeon nE _ hnd hlt
  refine ⟨⟨by simp, ?_, hnd, hlt, ?_, ?_⟩, by simp at hlen; omega⟩
  · have := zo_is_snoc (x := nI e) m2
    simpa using this
  · intro x hx
    by_cases hxe : x = e
    · subst hxe
      rw [pk_us]
      simp
    · rw [pk_un hxe, m5 x hx]
      simp [hxe]
  · intro x hx
    by_cases hxe : x = e
    · subst hxe
      exact ⟨D, Nat.le_refl _, pk_us⟩
    · rw [pk_un hxe]
      exact m6 x hx
theorem nar_1 : vp_nar .boolean (1 : Int32) = nI 1 := by decide
theorem nar_0 : vp_nar .boolean (0 : Int32) = nI 0 := by decide
section RD
variable {nW nE L hi : Nat} {os : List Ob_} {cs : Nat → List Nat} {fl : List Nat} {G G' : G_} {mR mI mC mY mZ mF mL mN mX mT : Nat → Int32} {mfr mcd mwd men mmd mhi mct mtk : Int32} {a b a1 a2 a3 c o_ : Int32}
theorem sr_meet {rl : List Nat} {v : Int32} {post : (Nat → Int32) → (Nat → Int32) → Int32 → Prop} (hE : nE ≤ 8192) (hM : zo_M nE 1 rl mT mct mX) (hv : zo_V nE v)
    (h : ∀ mX' mT' mct', zo_M nE 1 (zo_step rl v) mT' mct' mX' → post mX' mT' mct') : wqR_meet mX mT mct v post := by
  unfold wqR_meet
  rcases hv with hv | ⟨e, he, rfl⟩
  · refine sr_isObject_n hv ⟨fun _ => h _ _ _ ?_, fun z => absurd rfl z⟩
    unfold zo_step
    rw [zo_dec_n hv]
    exact hM
  · have hst : zo_step rl (ov_ e) = zo_add rl e := by
      unfold zo_step
      rw [zo_dec_ov (by omega)]
    rw [hst] at h
    refine sr_isObject_o (by omega) ⟨fun z => absurd z (by decide), fun _ => sr_placeOf (by omega) ?_⟩
    rw [nI_clamp (by omega)]
    obtain ⟨m1, m2, m3, m4, m5, m6⟩ := id hM
    by_cases hin : e ∈ rl
    · have h1 := (m5 e he).mpr hin
      refine ⟨vp_in_nI (by omega) (by omega), fun z => ?_, fun _ => h _ _ _ ?_⟩
      · rw [h1] at z
        exact absurd z (by decide)
      · unfold zo_add
        rw [if_pos hin]
        exact hM
    · obtain ⟨q1, q2⟩ := zo_M_add hM he hin
      refine ⟨vp_in_nI (by omega) (by omega), fun _ => sr_placeOf (by omega) ⟨vp_in_nI (by omega) (by omega), sr_placeOf (by omega) ⟨by rw [m1]; exact vp_in_nI (by omega) (by omega), ?_⟩⟩, fun z => ?_⟩
      · rw [m1, nI_clamp (by omega), nI_clamp (by omega), zi_1, nar_1]
        refine h _ _ _ ?_
        unfold zo_add
        rw [if_neg hin]
        exact q1
      · obtain ⟨t, ht, q⟩ := m6 e he
        rcases (show t = 0 ∨ t = 1 by omega) with rfl | rfl
        · exact absurd q z
        · exact absurd ((m5 e he).mp q) hin
theorem sr_spread_60 {y1 mtk0 : Int32} {p : Nat} {post : (Nat → Int32) → (Nat → Int32) → Int32 → Int32 → Prop} {kx : Int32 → (Nat → Int32) → (Nat → Int32) → Int32 → Prop} (hE : nE ≤ 8192) (hp : p < 8192) (hY : mY p = 0) :
    ∀ (ys : List Nat) (v : Int32) (rl : List Nat) (mX mT : Nat → Int32) (mct : Int32), zc_ch mN v ys → (∀ y ∈ ys, y < 65536) → (∀ y ∈ ys, zo_V nE (mL y)) → zo_M nE 1 rl mT mct mX → (∀ z mX' mT' mct', zo_M nE 1 ((ys.map mL).foldl zo_step rl) mT' mct' mX' → kx z mX' mT' mct') →
      wqR_spread_60 mC mY mZ mF mL mN y1 (nI p) mtk0 post kx (ys.length + 1) v mX mT mct := by
  intro ys
  induction ys with
  | nil =>
    intro v rl mX mT mct hch _ _ hM hk
    unfold wqR_spread_60
    rw [show v = -1 from hch]
    exact ⟨fun _ => hk _ _ _ _ hM, fun z => absurd (by decide) z⟩
  | cons y ys ih =>
    intro v rl mX mT mct hch hlt hV hM hk
    obtain ⟨h1, h2⟩ := hch
    have hy := hlt y List.mem_cons_self
    unfold wqR_spread_60
    rw [h1, nI_clamp (n := p) (by omega), nI_clamp (n := y) (by omega)]
    refine ⟨fun z => absurd z (nI_pos (by omega)), fun _ => ⟨vp_in_nI hp (by omega), fun _ => ⟨vp_in_nI hy (by omega), ?_⟩, fun z => absurd hY z⟩⟩
    refine sr_meet hE hM (hV y List.mem_cons_self) ?_
    intro mX1 mT1 mct1 hM1
    exact ⟨vp_in_nI hy (by omega), ih (mN y) (zo_step rl (mL y)) mX1 mT1 mct1 h2 (fun z hz => hlt z (List.mem_cons_of_mem _ hz)) (fun z hz => hV z (List.mem_cons_of_mem _ hz)) hM1 hk⟩
theorem zo_Vo.VE {v : Int32} (hm : ∀ o ∈ os, oE o < nE) (h : zo_Vo os v) : zo_V nE v := by
  rcases h with q | ⟨o, ho, rfl⟩
  · exact Or.inl q
  · exact Or.inr ⟨_, hm o ho, rfl⟩
theorem sr_spread_2 {post : (Nat → Int32) → (Nat → Int32) → Int32 → Int32 → Prop} {kx : Int32 → (Nat → Int32) → (Nat → Int32) → Int32 → Int32 → Prop} (hE : nE ≤ 8192) (hW : nW ≤ 65536) (hw : zo_wf os mR) (hm : r_mem nW nE L os cs fl mI mC mY mZ mF mL mN mfr) (rl0 : List Nat)
    (K : ∀ z rl mX mT, zo_M nE 1 rl mT (nI rl.length) mX → zo_J os rl0 rl rl.length → kx z mX mT (nI rl.length) (nI ((rl.map (zo_wt os)).sum))) :
    ∀ (n i : Nat) (rl : List Nat) (mX mT : Nat → Int32) (mct : Int32), nE - i < n → i ≤ rl.length → zo_M nE 1 rl mT mct mX → zo_J os rl0 rl i → wqR_spread_2 mC mY mZ mF mL mN post kx n (nI i) mX mT mct (nI (((rl.take i).map (zo_wt os)).sum)) := by
  intro n
  induction n with
  | zero => intro i rl mX mT mct h; omega
  | succ n ih =>
    intro i rl mX mT mct hn hi hM hJ
    have hlen : rl.length ≤ nE := zo_pigeon nE rl hM.2.2.1 hM.2.2.2.1
    have hmct := hM.1
    unfold wqR_spread_2
    refine ⟨fun z => ?_, fun z => ?_⟩
    · rw [hmct, nI_leI (by omega) (by omega)] at z
      have : i = rl.length := by omega
      subst this
      rw [List.take_length, hmct]
      rw [hmct] at hM
      exact K _ rl mX mT hM hJ
    · rw [hmct, nI_leI (by omega) (by omega)] at z
      have hilt : i < rl.length := by omega
      obtain ⟨o, ho, hoe⟩ := hJ.2.1 (rl[i]) (List.getElem_mem hilt)
      have hx : rl[i]? = some (oE o) := by rw [List.getElem?_eq_getElem hilt, hoe]
      have hT : mT i = nI (oE o) := by
        have := hM.2.1 i (nI (oE o)) (by rw [List.getElem?_map, hx]; rfl)
        simpa using this
      obtain ⟨q1, q2, q3, q4, q5, q6, q7, q8, q9⟩ := hm.1 o ho
      have hvp : vp_in (nI (oE o)) 8192 := vp_in_nI (by omega) (by omega)
      have hVE : ∀ v ∈ zo_kids o, zo_V nE v := fun v hv => (hw.2.2.1 o ho v hv).VE (fun o ho => (hm.1 o ho).1)
      rw [nI_clamp (by omega), hT, nI_clamp (n := oE o) (by omega), q5]
      refine ⟨vp_in_nI (by omega) (by omega), hvp, sr_meet hE hM (hVE _ List.mem_cons_self) ?_⟩
      intro mX1 mT1 mct1 hM1
      refine ⟨hvp, hvp, ?_⟩
      rw [q7, q6]
      refine sr_cellsFor (by omega) ⟨hvp, ?_⟩
      have hJ2 := zo_J_next hw.1 hw.2.2.1 hw.2.1 hJ ho hx
      obtain ⟨t, ht⟩ := zo_fold_pre (zo_kids o) rl
      have htk : ((((zo_kids o).foldl zo_step rl).take (i + 1)).map (zo_wt os)).sum = ((rl.take i).map (zo_wt os)).sum + 4 + bW_ (oH o) := by
        rw [ht, List.take_append_of_le_length (by omega), List.take_add_one, hx]
        simp only [Option.toList_some, List.map_append, List.map_cons, List.map_nil, List.sum_append, List.sum_cons, List.sum_nil]
        have : zo_wt os (oE o) = 4 + bW_ (oH o) := zo_fn_of hw.1 ho
        rw [this]
        omega
      have next : ∀ mX2 mT2 mct2, zo_M nE 1 ((zo_kids o).foldl zo_step rl) mT2 mct2 mX2 → wqR_spread_2 mC mY mZ mF mL mN post kx n (nI i + 1) mX2 mT2 mct2 ((nI (((rl.take i).map (zo_wt os)).sum) + 4) + nI (bW_ (oH o))) := by
        intro mX2 mT2 mct2 hM2
        rw [zi_1, zi_4, nI_add, ← htk]
        refine ih (i + 1) _ mX2 mT2 mct2 (by omega) ?_ hM2 hJ2
        rw [ht]
        simp
        omega
      rcases (show oH o % 2 = 1 ∨ oH o % 2 = 0 by omega) with c | c
      · have hk0 : (zo_kids o).foldl zo_step rl = zo_step rl (oC o) := by
          unfold zo_kids
          rw [sl_odd c]
          rfl
        rw [hk0] at next
        refine ⟨1, ?_⟩
        unfold wqR_spread_60
        rw [nI_clamp (n := oE o) (by omega), q6, c]
        exact ⟨fun _ => next _ _ _ hM1, fun _ => ⟨hvp, fun z => absurd z (by decide), fun _ => next _ _ _ hM1⟩⟩
      · refine ⟨(cs (oE o)).length + 1, ?_⟩
        refine sr_spread_60 hE (by omega) (by rw [q6, c]; rfl) (cs (oE o)) _ _ _ _ _ q8 (fun y hy => by have := r_clt hm.2.2.2 ho hy; omega) ?_ hM1 ?_
        · intro y hy
          refine hVE _ (List.mem_cons_of_mem _ ?_)
          rw [sl_of c, ← q9]
          exact List.mem_map_of_mem hy
        · intro z2 mX2 mT2 mct2 hM2
          refine next _ _ _ ?_
          unfold zo_kids
          rw [List.foldl_cons, sl_of c, ← q9]
          exact hM2
theorem sr_spread {rl0 : List Nat} {post : (Nat → Int32) → (Nat → Int32) → Int32 → Int32 → Prop} (hE : nE ≤ 8192) (hW : nW ≤ 65536) (hw : zo_wf os mR) (hm : r_mem nW nE L os cs fl mI mC mY mZ mF mL mN mfr) (hM : zo_M nE 1 rl0 mT mct mX) (hin : ∀ x ∈ rl0, ∃ o ∈ os, oE o = x)
    (h : ∀ rl mX' mT', zo_M nE 1 rl mT' (nI rl.length) mX' → zo_J os rl0 rl rl.length → post mX' mT' (nI rl.length) (nI ((rl.map (zo_wt os)).sum))) : wqR_spread mC mY mZ mF mL mN mX mT mct 0 post := by
  unfold wqR_spread
  refine ⟨nE + 1, ?_⟩
  exact sr_spread_2 hE hW hw hm rl0 (fun z rl mX' mT' m j => h rl mX' mT' m j) (nE + 1) 0 rl0 mX mT mct (by omega) (by omega) hM ⟨fun x hx => hx, hin, fun x hx X hX _ => hX x hx, fun k x _ hk => absurd hk (by omega)⟩
theorem sr_forget {post : (Nat → Int32) → Int32 → Int32 → Prop} (hE : nE ≤ 8192) (h : ∀ mX', (∀ p, p < nE → mX' p = 0) → post mX' 0 0) : wqR_forget (nI nE) mX mct mtk post := by
  unfold wqR_forget
  refine ⟨nE + 1, ?_⟩
  have loop : ∀ (m t : Nat) (mX : Nat → Int32), t + m = nE → (∀ p, p < t → mX p = 0) → wqR_forget_2 (nI nE) mct mtk post (fun z1_2 mXe_2 => post mXe_2 0 0) (m + 1) (nI t) mX := by
    intro m
    induction m with
    | zero =>
      intro t mX ht hp
      unfold wqR_forget_2
      have : t = nE := by omega
      subst this
      exact ⟨fun _ => h _ hp, fun z => absurd (nI_le (Nat.le_refl _) (by omega)) z⟩
    | succ m ih =>
      intro t mX ht hp
      unfold wqR_forget_2
      refine ⟨fun z => absurd z (nI_ge (by omega) (by omega)), fun _ => ⟨vp_in_nI (by omega) (by omega), ?_⟩⟩
      rw [nI_clamp (by omega), zi_1, nar_0]
      refine ih (t + 1) _ (by omega) ?_
      intro p hp'
      by_cases c : p = t
      · subst c
        exact pk_us
      · rw [pk_un c]
        exact hp p (by omega)
  exact loop nE 0 mX (by omega) (fun p hp => by omega)
theorem zo_M_0 {mX : Nat → Int32} (h : ∀ p, p < nE → mX p = 0) : zo_M nE 1 [] mT 0 mX := by
  refine ⟨rfl, zo_is_nil, List.nodup_nil, fun x hx => by simp at hx, fun e he => ?_, fun e he => ⟨0, by omega, h e he⟩⟩
  rw [h e he]
  exact ⟨fun q => absurd q (by decide), fun q => by simp at q⟩
theorem sr_reach {post : (Nat → Int32) → (Nat → Int32) → Int32 → Int32 → Prop} (hE : nE ≤ 8192) (hW : nW ≤ 65536) (hc : r_core nW nE os cs fl hi G mR mI mC mY mZ mF mL mN mfr)
    (h : ∀ rl mX' mT', zo_M nE 1 rl mT' (nI rl.length) mX' → (∀ e, e ∈ rl ↔ zo_reach os mR e) → (∀ e ∈ rl, ∃ o ∈ os, oE o = e) → post mX' mT' (nI rl.length) (nI ((rl.map (zo_wt os)).sum))) :
    wqR_reach (nI nE) mR mC mY mZ mF mL mN mX mT mct mtk post := by
  obtain ⟨c1, c2, c3, c4⟩ := hc
  unfold wqR_reach
  refine sr_forget hE ?_
  intro mX0 h0
  refine ⟨33, ?_⟩
  have hV : ∀ r, r < 32 → zo_V nE (mR r) := fun r hr => (c1.2.2.2.1 r hr).VE (fun o ho => (c3.1 o ho).1)
  have loop : ∀ (m t : Nat) (mX mT : Nat → Int32) (mct : Int32), t + m = 32 → zo_M nE 1 (((List.range t).map mR).foldl zo_step []) mT mct mX → wqR_reach_6 (nI nE) mR mC mY mZ mF mL mN 0 post (fun z1_6 mXe_6 mTe_6 mcte_6 => wqR_spread mC mY mZ mF mL mN mXe_6 mTe_6 mcte_6 0 (fun mX_29 mT_29 mct_29 mtk_29 => post mX_29 mT_29 mct_29 mtk_29)) (m + 1) (nI t) mX mT mct := by
    intro m
    induction m with
    | zero =>
      intro t mX mT mct ht hM
      unfold wqR_reach_6
      have : t = 32 := by omega
      subst this
      refine ⟨fun _ => ?_, fun z => absurd (by decide) z⟩
      refine sr_spread hE hW c1 c3 hM ?_ ?_
      · intro y hy
        obtain ⟨r, hr, hd⟩ := zo_roots.mp hy
        obtain ⟨o, ho, he, -⟩ := (c1.2.2.2.1 r hr).of c1.2.1 hd
        exact ⟨o, ho, he⟩
      · intro rl mX' mT' hM' hJ
        exact h rl mX' mT' hM' (zo_J_reach hJ) hJ.2.1
    | succ m ih =>
      intro t mX mT mct ht hM
      unfold wqR_reach_6
      refine ⟨fun z => absurd z (nI_ge (b := 32) (by omega) (by omega)), fun _ => ⟨vp_in_nI (by omega) (by omega), ?_⟩⟩
      rw [nI_clamp (by omega), zi_1]
      refine sr_meet hE hM (hV t (by omega)) ?_
      intro mX' mT' mct' hM'
      refine ih (t + 1) mX' mT' mct' (by omega) ?_
      rw [List.range_succ, List.map_append, List.foldl_append]
      exact hM'
  exact loop 32 0 mX0 mT 0 (by omega) (zo_M_0 h0)
theorem zo_nd_on {α β : Type} {f : α → β} {l : List α} (hf : ∀ x ∈ l, ∀ y ∈ l, f x = f y → x = y) (h : l.Nodup) : (l.map f).Nodup := by
  induction l with
  | nil => simp
  | cons a l ih =>
    rw [List.nodup_cons] at h
    rw [List.map_cons, List.nodup_cons]
    refine ⟨fun hm => ?_, ih (fun x hx y hy => hf x (List.mem_cons_of_mem _ hx) y (List.mem_cons_of_mem _ hy)) h.2⟩
    obtain ⟨x, hx, e⟩ := List.mem_map.mp hm
    rw [hf x (List.mem_cons_of_mem _ hx) a List.mem_cons_self e] at hx
    exact h.1 hx
/-- what the marking found is all that the store reaches -/
theorem r_all {rl : List Nat} (hw : zo_wf os mR) (ha : zo_abs bxR os mR G.1 G.2.1) (hn : rl.Nodup) (h1 : ∀ e, e ∈ rl ↔ zo_reach os mR e) (h2 : ∀ e ∈ rl, ∃ o ∈ os, oE o = e) :
    g_all G (rl.map (zo_idof os)) ∧ ((rl.map (zo_idof os)).map (g_w G)).sum = (rl.map (zo_wt os)).sum := by
  refine ⟨⟨zo_nd_on ?_ hn, fun i => ⟨fun hi => ?_, fun hi => ?_⟩⟩, ?_⟩
  · intro x hx y hy e
    obtain ⟨o, ho, rfl⟩ := h2 x hx
    obtain ⟨o', ho', rfl⟩ := h2 y hy
    rw [zo_idof_of hw.1 ho, zo_idof_of hw.1 ho'] at e
    rw [zo_id_one hw.2.2.2.2.1 ho ho' e]
  · obtain ⟨x, hx, rfl⟩ := List.mem_map.mp hi
    obtain ⟨o, ho, rfl⟩ := h2 x hx
    rw [zo_idof_of hw.1 ho]
    exact zo_to_g hw ha ho ((h1 _).mp hx)
  · obtain ⟨o, ho, rfl, hr⟩ := g_to_zo hw ha hi
    refine List.mem_map.mpr ⟨oE o, (h1 _).mpr hr, zo_idof_of hw.1 ho⟩
  · rw [List.map_map]
    congr 1
    refine List.map_congr_left (fun x hx => ?_)
    obtain ⟨o, ho, rfl⟩ := h2 x hx
    show g_w G (zo_idof os (oE o)) = zo_wt os (oE o)
    rw [zo_idof_of hw.1 ho, show zo_wt os (oE o) = 4 + bW_ (oH o) from zo_fn_of hw.1 ho]
    unfold g_w
    rw [ao_sh (ha.2 o ho ((h1 _).mp hx))]
def g_room (nW nE : Nat) (G : G_) : Prop := ∃ l, g_all G l ∧ l.length ≤ nE ∧ (l.map (g_w G)).sum ≤ nW
theorem rR_words {pq : Int32 → Int32 → (Nat → Int32) → (Nat → Int32) → Int32 → Int32 → Prop} (hE : nE ≤ 8192) (hW : nW ≤ 65536) (hr : g_room nW nE G) (hc : r_rep nW nE G mwd men mR mI mC mY mZ mF mmd mhi mL mN mfr) (hA : A_words nW G o_)
    (h : ∀ mX' mT' mct' mtk', pq o_ 0 mX' mT' mct' mtk') : wqR_words mcd mwd men mR mC mY mZ mF mL mN mX mT mct mtk pq := by
  obtain ⟨rfl, rfl, e3, os, cs, fl, hi, e4, hc'⟩ := id hc
  unfold wqR_words
  refine sr_reach hE hW hc' ?_
  intro rl mX' mT' hM h1 h2
  obtain ⟨g1, g2⟩ := r_all hc'.1 hc'.2.1 hM.2.2.1 h1 h2
  obtain ⟨l, hl, rfl⟩ := hA
  obtain ⟨l', hl', -, r2⟩ := hr
  rw [g_all_sum hl g1, g2] at h
  rw [g_all_sum hl' g1, g2] at r2
  rw [pk_sub r2]
  exact h _ _ _ _
theorem rR_entries {pq : Int32 → Int32 → (Nat → Int32) → (Nat → Int32) → Int32 → Int32 → Prop} (hE : nE ≤ 8192) (hW : nW ≤ 65536) (hr : g_room nW nE G) (hc : r_rep nW nE G mwd men mR mI mC mY mZ mF mmd mhi mL mN mfr) (hA : A_entries nE G o_)
    (h : ∀ mX' mT' mct' mtk', pq o_ 0 mX' mT' mct' mtk') : wqR_entries mcd men mR mC mY mZ mF mL mN mX mT mct mtk pq := by
  obtain ⟨rfl, rfl, e3, os, cs, fl, hi, e4, hc'⟩ := id hc
  unfold wqR_entries
  refine sr_reach hE hW hc' ?_
  intro rl mX' mT' hM h1 h2
  obtain ⟨g1, g2⟩ := r_all hc'.1 hc'.2.1 hM.2.2.1 h1 h2
  obtain ⟨l, hl, rfl⟩ := hA
  obtain ⟨l', hl', r1, -⟩ := hr
  have e1 := g_all_len hl g1
  have e2 := g_all_len hl' g1
  rw [List.length_map] at e1 e2
  rw [e1] at h
  rw [pk_sub (by omega)]
  exact h _ _ _ _
theorem rR_reaches {pq : Int32 → Int32 → (Nat → Int32) → (Nat → Int32) → Int32 → Int32 → Prop} (hE : nE ≤ 8192) (hW : nW ≤ 65536) (hc : r_rep nW nE G mwd men mR mI mC mY mZ mF mmd mhi mL mN mfr) (hA : A_reaches G a1 a2 c o_ G')
    (h : ∀ b mX' mT' mct' mtk', (c = 0 → b = o_) → r_rep nW nE G' mwd men mR mI mC mY mZ mF mmd mhi mL mN mfr → pq b c mX' mT' mct' mtk') : wqR_reaches mcd men mR mC mY mZ mF mL mN mX mT mct mtk a1 a2 pq := by
  obtain ⟨e1, rfl, e3, os, cs, fl, hi, e4, hc'⟩ := id hc
  unfold wqR_reaches wqR_reaches_25
  rcases hA with ⟨i, j, ⟨k, hk, hi'⟩, ⟨k2, hk2, hj⟩, rfl, ho_, rfl⟩ | ⟨hn, rfl, rfl⟩
  · obtain ⟨x, hxm, h1, h2, h3, h4, h5, h6, h7⟩ := r_obj hE hc' hk.1 hi'
    obtain ⟨y, hym, g1, g2, g3, g4, g5, g6, g7⟩ := r_obj hE hc' hk2.1 hj
    refine sr_has_in hk h1 h7 ⟨fun z => absurd z (by decide), fun _ => sr_has_in hk2 g1 g7 ⟨fun z => absurd z (by decide), fun _ => ⟨fun _ => ?_, fun z => absurd (by decide) z⟩⟩⟩
    refine sr_forget hE ?_
    intro mX0 h0
    refine ⟨gReg_in hk, ?_⟩
    rw [gReg_cl hk, h1]
    refine sr_meet hE (zo_M_0 (mT := mT) h0) (Or.inr ⟨_, h5.1, rfl⟩) ?_
    intro mX1 mT1 mct1 hM1
    rw [show zo_step [] (ov_ (oE x)) = [oE x] by unfold zo_step; rw [zo_dec_ov h7]; unfold zo_add; simp] at hM1
    refine sr_spread hE hW hc'.1 hc'.2.2.1 hM1 (fun y hy => ⟨x, hxm, (List.mem_singleton.mp hy).symm⟩) ?_
    intro rl mX2 mT2 hM2 hJ
    refine ⟨gReg_in hk2, ?_⟩
    rw [gReg_cl hk2, g1]
    refine sr_placeOf g7 ?_
    rw [nI_clamp (by omega)]
    have hR := zo_J_one h7 hJ (oE y)
    rw [zo_from hc'.1 hc'.2.1 hxm hym h3, h2, g2] at hR
    have hval : mX2 (oE y) = o_ ∧ (o_ = 0 ∨ o_ = 1) := by
      rcases ho_ with ⟨z, rfl⟩ | ⟨z, rfl⟩
      · exact ⟨(hM2.2.2.2.2.1 _ g5.1).mpr (hR.mpr z), Or.inr rfl⟩
      · obtain ⟨t, ht, q⟩ := hM2.2.2.2.2.2 (oE y) g5.1
        rcases (show t = 0 ∨ t = 1 by omega) with rfl | rfl
        · exact ⟨q, Or.inl rfl⟩
        · exact absurd (hR.mp ((hM2.2.2.2.2.1 _ g5.1).mp q)) z
    rw [hval.1]
    refine ⟨vp_in_nI g7 (by omega), ?_, h _ _ _ _ _ (fun _ => rfl) hc⟩
    rcases hval.2 with z | z <;> rw [z] <;> decide
  · have hq := h 0 mX mT mct mtk (fun z => absurd z (by decide)) hc
    by_cases q : ∃ i, gHas G' a1 i
    · obtain ⟨i, k, hk, hi'⟩ := id q
      obtain ⟨x, hxm, h1, h2, h3, h4, h5, h6, h7⟩ := r_obj hE hc' hk.1 hi'
      exact sr_has_in hk h1 h7 ⟨fun z => absurd z (by decide), fun _ => sr_has_out hc'.1 hc'.2.1 (fun z => hn ⟨q, z⟩) ⟨fun _ => ⟨fun z => absurd z (by decide), fun _ => hq⟩, fun z => absurd rfl z⟩⟩
    · exact sr_has_out hc'.1 hc'.2.1 q ⟨fun _ => ⟨fun z => absurd z (by decide), fun _ => hq⟩, fun z => absurd rfl z⟩
end RD

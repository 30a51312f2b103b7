/-! the class's calls that only read and write what is there -/
section CP
variable {nW nE D K : Nat} {os : List Ob_} {sl : List Nat} {G G' : G_} {R f P S ro rc : Nat → Int32} {us sc li rd st rn : Int32} {a b a1 a2 a3 c w : Int32} {post : Prop} {px : String → Prop}
theorem sp_needSlots_in {k e p : Nat} {o : Ob_} (h : gReg a k) (hR : R k = ov_ e) (ho : zo_ob nW nE f P e o p) (hh : oH o % 2 = 0) (hp : post) : wqT_needSlots nW nE R f P a post px := by
  unfold wqT_needSlots
  refine sp_needReg_in h ⟨gReg_in h, ?_⟩
  rw [gReg_cl h, hR]
  refine sp_holdsSlots_o ho ?_
  rw [if_neg (by omega)]
  exact ⟨fun q => absurd q (by decide), fun _ => hp⟩
theorem sp_needBytes_in {k e p : Nat} {o : Ob_} (h : gReg a k) (hR : R k = ov_ e) (ho : zo_ob nW nE f P e o p) (hh : oH o % 2 = 1) (hp : post) : wqT_needBytes nW nE R f P a post px := by
  unfold wqT_needBytes
  refine sp_needReg_in h ⟨gReg_in h, ?_⟩
  rw [gReg_cl h, hR]
  refine sp_holdsBytes_o ho ?_
  rw [if_pos hh]
  exact ⟨fun q => absurd q (by decide), fun _ => hp⟩
theorem sp_needSlots_out (hE : nE ≤ 8192) (hW : nW ≤ 65536) (hc : c_core nW nE os sl D G R f P S ro st) (hn : ¬ ∃ i, gSl G a i) (hp : px "java/lang/IllegalArgumentException") : wqT_needSlots nW nE R f P a post px := by
  unfold wqT_needSlots
  by_cases c : ∃ k, gReg a k
  · obtain ⟨k, hk⟩ := c
    refine sp_needReg_in hk ⟨gReg_in hk, ?_⟩
    rw [gReg_cl hk]
    cases hg : G.1 k with
    | inl v =>
      obtain ⟨h1, h2⟩ := zq_val (hc.wf hE) hc.2.2 hk.1 hg
      rw [h1]
      exact sp_holdsSlots_n h2 ⟨fun _ => hp, fun q => absurd rfl q⟩
    | inr i =>
      obtain ⟨pre, o, po, rfl, h1, h2, h3, h4, h5, h6, h7, h8⟩ := c_obj hE hW hc hk.1 hg
      rw [h1]
      refine sp_holdsSlots_o h5 ?_
      have hodd : oH o % 2 = 1 := by
        rcases (show oH o % 2 = 1 ∨ oH o % 2 = 0 by omega) with q | q
        · exact q
        · exact absurd ⟨i, ⟨k, hk, hg⟩, by rw [ao_sh h4]; exact q⟩ hn
      rw [if_pos hodd]
      exact ⟨fun _ => hp, fun q => absurd rfl q⟩
  · exact sp_needReg_out c hp
theorem sp_needBytes_out (hE : nE ≤ 8192) (hW : nW ≤ 65536) (hc : c_core nW nE os sl D G R f P S ro st) (hn : ¬ ∃ i, gBy G a i) (hp : px "java/lang/IllegalArgumentException") : wqT_needBytes nW nE R f P a post px := by
  unfold wqT_needBytes
  by_cases c : ∃ k, gReg a k
  · obtain ⟨k, hk⟩ := c
    refine sp_needReg_in hk ⟨gReg_in hk, ?_⟩
    rw [gReg_cl hk]
    cases hg : G.1 k with
    | inl v =>
      obtain ⟨h1, h2⟩ := zq_val (hc.wf hE) hc.2.2 hk.1 hg
      rw [h1]
      exact sp_holdsBytes_n h2 ⟨fun _ => hp, fun q => absurd rfl q⟩
    | inr i =>
      obtain ⟨pre, o, po, rfl, h1, h2, h3, h4, h5, h6, h7, h8⟩ := c_obj hE hW hc hk.1 hg
      rw [h1]
      refine sp_holdsBytes_o h5 ?_
      have hodd : ¬ oH o % 2 = 1 := fun q => hn ⟨i, ⟨k, hk, hg⟩, by rw [ao_sh h4]; exact q⟩
      rw [if_neg hodd]
      exact ⟨fun _ => hp, fun q => absurd rfl q⟩
  · exact sp_needReg_out c hp
theorem sp_between_ix {n j : Nat} {pq : Int32 → Prop} (hn : n < 2 ^ 30) (h : gIx b n j) (hp : pq 1) : wqT_isBetween b 0 (nI n - 1) pq := by
  have h1 := (gIx_iff (a := b) (n := n) (by omega)).mp ⟨j, h⟩
  have h2 : (nI n - 1).toInt = (n : Int) - 1 := pk_sub_toInt (a := n) (b := 1) hn (by omega)
  exact sp_between_in h1.1 (by rw [h2]; omega) hp
theorem sp_between_nix {n : Nat} {pq : Int32 → Prop} (hn : n < 2 ^ 30) (h : ¬ ∃ j, gIx b n j) (hp : pq 0) : wqT_isBetween b 0 (nI n - 1) pq := by
  rw [gIx_iff (by omega)] at h
  have h2 : (nI n - 1).toInt = (n : Int) - 1 := pk_sub_toInt (a := n) (b := 1) hn (by omega)
  refine sp_between_out ?_ hp
  rw [h2]
  rintro ⟨q1, q2⟩
  exact h ⟨q1, by omega⟩
theorem sp_needIndex_in {k e p j : Nat} {o : Ob_} (h : gReg a k) (hR : R k = ov_ e) (ho : zo_ob nW nE f P e o p) (hj : gIx b (oH o / 2) j) (hp : post) : wqT_needIndex nW nE R f P a b post px := by
  unfold wqT_needIndex
  rw [gReg_cl h, hR]
  refine ⟨gReg_in h, sp_count ho (sp_between_ix ?_ hj ⟨fun q => absurd q (by decide), fun _ => hp⟩)⟩
  have := ho.2.2.2.2.1
  omega
theorem sp_needIndex_out {k e p : Nat} {o : Ob_} (h : gReg a k) (hR : R k = ov_ e) (ho : zo_ob nW nE f P e o p) (hj : ¬ ∃ j, gIx b (oH o / 2) j) (hp : px "java/lang/IndexOutOfBoundsException") : wqT_needIndex nW nE R f P a b post px := by
  unfold wqT_needIndex
  rw [gReg_cl h, hR]
  refine ⟨gReg_in h, sp_count ho (sp_between_nix ?_ hj ⟨fun _ => hp, fun q => absurd rfl q⟩)⟩
  have := ho.2.2.2.2.1
  omega
theorem cL_number {pq : Int32 → (Nat → Int32) → Int32 → Prop} (hE : nE ≤ 8192) (hc : c_rep nW nE K G R f us P S sc li ro rd st) (hA : A_number G a b c G')
    (h : ∀ R' st', c_rep nW nE K G' R' f us P S sc li ro rd st' → pq c R' st') : wqL_number nW nE R st a b pq := by
  unfold wqL_number wqT_number
  rcases hA with ⟨k, hk, hb, rfl, rfl⟩ | ⟨hn, rfl, rfl⟩
  · obtain ⟨os, sl, D, e1, e2, e3, e4, e5, e6, hc⟩ := hc
    refine sp_needReg_in hk (sp_needBetween_in hb.1 hb.2 ?_)
    have hv : nv_ b = 0 ∨ ¬ nv_ b &&& (1 : Int32) = 0 := Or.inr (nv_and0 b)
    show wqT_setRegister nW nE R st a (nv_ b) (fun R_18 st_18 => pq 0 R_18 st_18)
    refine c_setReg hE hc hk (zo_ok_n hv) ?_
    intro st' hc'
    rw [zv_n hv] at hc'
    exact h _ _ ⟨os, sl, D, e1, e2, e3, e4, e5, e6, hc'⟩
  · by_cases q : ∃ k, gReg a k
    · obtain ⟨k, hk⟩ := q
      exact sp_needReg_in hk (sp_needBetween_out (fun z => hn ⟨⟨k, hk⟩, z⟩) ⟨rfl, h _ _ hc⟩)
    · exact sp_needReg_out q ⟨rfl, h _ _ hc⟩
theorem cL_move {pq : Int32 → (Nat → Int32) → Int32 → Prop} (hE : nE ≤ 8192) (hc : c_rep nW nE K G R f us P S sc li ro rd st) (hA : A_move G a b c G')
    (h : ∀ R' st', c_rep nW nE K G' R' f us P S sc li ro rd st' → pq c R' st') : wqL_move nW nE R st a b pq := by
  unfold wqL_move wqT_move
  rcases hA with ⟨k, j, hk, hj, rfl, rfl⟩ | ⟨hn, rfl, rfl⟩
  · obtain ⟨os, sl, D, e1, e2, e3, e4, e5, e6, hc⟩ := hc
    refine sp_needReg_in hk (sp_needReg_in hj ⟨gReg_in hj, ?_⟩)
    rw [gReg_cl hj]
    refine c_setReg hE hc hk (zo_ok_reg (hc.wf hE) hj.1) ?_
    intro st' hc'
    rw [hc.2.2.1 j hj.1] at hc'
    exact h _ _ ⟨os, sl, D, e1, e2, e3, e4, e5, e6, hc'⟩
  · by_cases q : ∃ k, gReg a k
    · obtain ⟨k, hk⟩ := q
      exact sp_needReg_in hk (sp_needReg_out (fun z => hn ⟨⟨k, hk⟩, z⟩) ⟨rfl, h _ _ hc⟩)
    · exact sp_needReg_out q ⟨rfl, h _ _ hc⟩
theorem cL_clear {pq : Int32 → (Nat → Int32) → Int32 → Prop} (hE : nE ≤ 8192) (hc : c_rep nW nE K G R f us P S sc li ro rd st) (hA : A_clear G a c G')
    (h : ∀ R' st', c_rep nW nE K G' R' f us P S sc li ro rd st' → pq c R' st') : wqL_clear nW nE R st a pq := by
  unfold wqL_clear wqT_clear
  rcases hA with ⟨k, hk, rfl, rfl⟩ | ⟨hn, rfl, rfl⟩
  · obtain ⟨os, sl, D, e1, e2, e3, e4, e5, e6, hc⟩ := hc
    refine sp_needReg_in hk ?_
    refine c_setReg hE hc hk (zo_ok_n (Or.inl rfl)) ?_
    intro st' hc'
    rw [zv_n (Or.inl rfl)] at hc'
    exact h _ _ ⟨os, sl, D, e1, e2, e3, e4, e5, e6, hc'⟩
  · exact sp_needReg_out hn ⟨rfl, h _ _ hc⟩
theorem mem_kids_sl {o : Ob_} {j : Nat} {x : Int32} (hh : oH o % 2 = 0) (hx : (oB o)[j]? = some x) : x ∈ zo_kids o := by
  unfold zo_kids
  rw [sl_of hh]
  exact List.mem_cons_of_mem _ (List.mem_of_getElem? hx)
theorem ix_some {o : Ob_} {j : Nat} (hh : oH o % 2 = 0) (hl : (oB o).length = bW_ (oH o)) (hj : j < oH o / 2) : ∃ x, (oB o)[j]? = some x := by
  rw [bW_even hh] at hl
  exact ⟨(oB o)[j]'(by omega), List.getElem?_eq_getElem _⟩
theorem sl_getD {o : Ob_} {j : Nat} {x : Int32} (hh : oH o % 2 = 0) (hx : (oB o)[j]? = some x) : ((zo_slots o).map (zv_ os)).getD j (.inl 0) = zv_ os x := by
  rw [sl_of hh, List.getD_eq_getElem?_getD, List.getElem?_map, hx]
  rfl
theorem cL_get {pq : Int32 → (Nat → Int32) → Int32 → Prop} (hE : nE ≤ 8192) (hW : nW ≤ 65536) (hc : c_rep nW nE K G R f us P S sc li ro rd st) (hA : A_get G a1 a2 a3 c G')
    (h : ∀ R' st', c_rep nW nE K G' R' f us P S sc li ro rd st' → pq c R' st') : wqL_get nW nE R f P st a1 a2 a3 pq := by
  unfold wqL_get wqT_get
  obtain ⟨os, sl, D, e1, e2, e3, e4, e5, e6, hc⟩ := id hc
  rcases hA with ⟨k, i, j, hk, ⟨⟨k2, hk2, hi⟩, hev⟩, hj, rfl, rfl⟩ | ⟨k, i, hk, ⟨⟨k2, hk2, hi⟩, hev⟩, hj, rfl, rfl⟩ | ⟨hn, rfl, rfl⟩
  · obtain ⟨pre, o, po, rfl, h1, h2, h3, h4, h5, h6, h7, h8⟩ := c_obj hE hW hc hk2.1 hi
    rw [ao_sh h4] at hev hj
    refine sp_needReg_in hk (sp_needSlots_in hk2 h1 h5 hev (sp_needIndex_in hk2 h1 h5 hj ⟨gReg_in hk2, ?_⟩))
    obtain ⟨x, hx⟩ := ix_some hev h7 hj.1
    obtain ⟨hj1, rfl⟩ := hj
    rw [gReg_cl hk2, h1]
    refine sp_slot h5 hx ?_
    refine c_setReg hE hc hk (zo_ok_kid (hc.wf hE) (by simp) h3 (mem_kids_sl hev hx)) ?_
    intro st' hc'
    rw [ao_sl h4, sl_getD hev hx] at h
    exact h _ _ ⟨_, sl, D, e1, e2, e3, e4, e5, e6, hc'⟩
  · obtain ⟨pre, o, po, rfl, h1, h2, h3, h4, h5, h6, h7, h8⟩ := c_obj hE hW hc hk2.1 hi
    rw [ao_sh h4] at hev hj
    exact sp_needReg_in hk (sp_needSlots_in hk2 h1 h5 hev (sp_needIndex_out hk2 h1 h5 hj (Or.inr ⟨rfl, h _ _ ⟨_, sl, D, e1, e2, e3, e4, e5, e6, hc⟩⟩)))
  · have hq := h _ _ ⟨os, sl, D, e1, e2, e3, e4, e5, e6, hc⟩
    by_cases q : ∃ k, gReg a1 k
    · obtain ⟨k, hk⟩ := q
      exact sp_needReg_in hk (sp_needSlots_out hE hW hc (fun z => hn ⟨⟨k, hk⟩, z⟩) (Or.inl ⟨rfl, hq⟩))
    · exact sp_needReg_out q (Or.inl ⟨rfl, hq⟩)
/-- a word of an object is written over -/
theorem sp_overwrite {at_ : Nat} {x v : Int32} {pq : (Nat → Int32) → Int32 → Prop} (hp : at_ < nW) (hW : nW ≤ 65536) (hx : f at_ = x) (hV : zo_V 8192 x) (h1 : (∃ e, zo_dec x = some e) → pq (upd f at_ v) 0) (h2 : zo_dec x = none → pq (upd f at_ v) st) : wqM_overwrite nW nE f st (nI at_) v pq := by
  unfold wqM_overwrite
  refine sp_word hW hp ?_
  rw [hx]
  rcases hV with q | ⟨e, he, rfl⟩
  · exact sp_letGo_n q (sp_setWord hW hp (h2 (zo_dec_n q)))
  · exact sp_letGo_o he (sp_setWord hW hp (h1 ⟨e, zo_dec_ov he⟩))
theorem zo_Vo.V8 {v : Int32} (h8 : ∀ o ∈ os, oE o < 8192) (h : zo_Vo os v) : zo_V 8192 v := by
  rcases h with q | ⟨o, ho, rfl⟩
  · exact Or.inl q
  · exact Or.inr ⟨_, h8 o ho, rfl⟩
theorem map_set_ {α β : Type} (g : α → β) (l : List α) (j : Nat) (x : α) : (l.set j x).map g = (l.map g).set j (g x) := by
  rw [List.map_set]
theorem cL_put {pq : Int32 → (Nat → Int32) → Int32 → Prop} (hE : nE ≤ 8192) (hW : nW ≤ 65536) (hc : c_rep nW nE K G R f us P S sc li ro rd st) (hA : A_put G a1 a2 a3 c G')
    (h : ∀ f' st', c_rep nW nE K G' R f' us P S sc li ro rd st' → pq c f' st') : wqL_put nW nE R f P st a1 a2 a3 pq := by
  unfold wqL_put wqT_put
  obtain ⟨os, sl, D, e1, e2, e3, e4, e5, e6, hc⟩ := id hc
  have hw := hc.wf hE
  rcases hA with ⟨k, i, j, hk, ⟨⟨k2, hk2, hi⟩, hev⟩, hj, rfl, rfl⟩ | ⟨k, i, hk, ⟨⟨k2, hk2, hi⟩, hev⟩, hj, rfl, rfl⟩ | ⟨hn, rfl, rfl⟩
  · obtain ⟨pre, o, po, rfl, h1, h2, h3, h4, h5, h6, h7, h8⟩ := c_obj hE hW hc hk2.1 hi
    rw [ao_sh h4] at hev hj
    refine sp_needReg_in hk (sp_needSlots_in hk2 h1 h5 hev (sp_needIndex_in hk2 h1 h5 hj ⟨gReg_in hk2, gReg_in hk, ?_⟩))
    obtain ⟨x, hx⟩ := ix_some hev h7 hj.1
    obtain ⟨hj1, rfl⟩ := hj
    have hjl : j < (oB o).length := (List.getElem?_eq_some_iff.mp hx).1
    rw [gReg_cl hk2, gReg_cl hk, h1]
    unfold wqM_setSlot
    refine sp_place hE h6 ?_
    have hP := h5.2.1
    have hb4 := h5.2.2.2.1
    rw [hP, zi_4, nI_add]
    have hkid := mem_kids_sl hev hx
    have key : ∀ st', st' = 0 ∨ st' = st ∧ zo_dec x = none → c_rep nW nE K (gO_ G i ((G.2.1 i).1, (G.2.1 i).2.1, (G.2.1 i).2.2.1.set j (G.1 k), (G.2.1 i).2.2.2)) R (upd f ((zo_row pre).length + 4 + j) (R k)) us P S sc li ro rd st' := by
      intro st' hst'
      have hsl : zo_slots o = oB o := sl_of hev
      have hsl' : zo_slots (oE o, oI o, oC o, oH o, (oB o).set j (R k)) = (oB o).set j (R k) := sl_of (o := (oE o, oI o, oC o, oH o, (oB o).set j (R k))) hev
      have hm := c_mod (o' := (oE o, oI o, oC o, oH o, (oB o).set j (R k))) (f' := upd f ((zo_row pre).length + 4 + j) (R k)) (st' := st') hE hc rfl rfl rfl (by show ((oB o).set j (R k)).length = _; simp) ?_ ?_ ?_
      · have hao : zo_ao bxC (pre ++ o :: po) (oE o, oI o, oC o, oH o, (oB o).set j (R k)) = ((G.2.1 i).1, (G.2.1 i).2.1, (G.2.1 i).2.2.1.set j (G.1 k), (G.2.1 i).2.2.2) := by
          rw [ao_cl h4, ao_sh h4, ao_sl h4, ao_by h4, if_neg (by omega), ← hc.2.2.1 k hk.1, ← map_set_, hsl]
          unfold zo_ao
          rw [hsl', if_neg (by show ¬ oH o % 2 = 1; omega)]
        rw [hao, h2] at hm
        exact ⟨_, sl, D, by rw [hm.2]; exact e1, e2, e3, e4, e5, e6, hm.1⟩
      · rw [zo_row_set (o := o) (k := 4 + j) (x := R k)]
        · rw [show (zo_row pre).length + (4 + j) = (zo_row pre).length + 4 + j by omega]
          exact zo_is_set hc.1.1.1
        · show _ :: _ :: _ :: _ :: (oB o).set j (R k) = (_ :: _ :: _ :: _ :: oB o).set (4 + j) (R k)
          rw [show 4 + j = j + 1 + 1 + 1 + 1 by omega]
          rfl
        · rw [zo_flat_len]; omega
      · intro v hv
        unfold zo_kids at hv
        rw [hsl'] at hv
        rcases List.mem_cons.mp hv with q | q
        · rw [q]
          exact zo_ok_kid hw (by simp) h3 List.mem_cons_self
        · rcases List.mem_or_eq_of_mem_set q with q | q
          · refine zo_ok_kid hw (by simp) h3 (List.mem_cons_of_mem _ ?_)
            rw [hsl]; exact q
          · rw [q]
            exact zo_ok_reg hw hk.1
      · rcases hst' with q | ⟨q, qn⟩
        · exact Or.inl q
        · refine Or.inr ⟨q, ?_⟩
          intro v hv e hd
          refine ⟨v, ?_, hd⟩
          unfold zo_kids at hv ⊢
          rw [hsl']
          rw [hsl] at hv
          rcases List.mem_cons.mp hv with q' | q'
          · exact List.mem_cons.mpr (Or.inl q')
          · refine List.mem_cons_of_mem _ ?_
            obtain ⟨m, hm⟩ := List.getElem?_of_mem q'
            have hmj : j ≠ m := by
              rintro rfl
              rw [hx] at hm
              rw [← Option.some.inj hm, qn] at hd
              cases hd
            exact List.mem_of_getElem? (i := m) (by rw [List.getElem?_set_ne hmj]; exact hm)
    refine sp_overwrite (by omega) hW (h5.bd hx) ((hw.2.2.1 o (by simp) x hkid).V8 hw.2.1) (fun _ => h _ _ (key 0 (Or.inl rfl))) (fun q => h _ _ (key st (Or.inr ⟨rfl, q⟩)))
  · obtain ⟨pre, o, po, rfl, h1, h2, h3, h4, h5, h6, h7, h8⟩ := c_obj hE hW hc hk2.1 hi
    rw [ao_sh h4] at hev hj
    exact sp_needReg_in hk (sp_needSlots_in hk2 h1 h5 hev (sp_needIndex_out hk2 h1 h5 hj (Or.inr ⟨rfl, h _ _ ⟨_, sl, D, e1, e2, e3, e4, e5, e6, hc⟩⟩)))
  · have hq := h _ _ ⟨os, sl, D, e1, e2, e3, e4, e5, e6, hc⟩
    by_cases q : ∃ k, gReg a3 k
    · obtain ⟨k, hk⟩ := q
      exact sp_needReg_in hk (sp_needSlots_out hE hW hc (fun z => hn ⟨⟨k, hk⟩, z⟩) (Or.inl ⟨rfl, hq⟩))
    · exact sp_needReg_out q (Or.inl ⟨rfl, hq⟩)
theorem cL_classOf {pq : Int32 → (Nat → Int32) → Int32 → Prop} (hE : nE ≤ 8192) (hW : nW ≤ 65536) (hc : c_rep nW nE K G R f us P S sc li ro rd st) (hA : A_classOf G a1 a2 c G')
    (h : ∀ R' st', c_rep nW nE K G' R' f us P S sc li ro rd st' → pq c R' st') : wqL_classOf nW nE R f P st a1 a2 pq := by
  unfold wqL_classOf wqT_classOf
  obtain ⟨os, sl, D, e1, e2, e3, e4, e5, e6, hc⟩ := id hc
  rcases hA with ⟨k, i, hk, ⟨k2, hk2, hi⟩, rfl, rfl⟩ | ⟨hn, rfl, rfl⟩
  · obtain ⟨pre, o, po, rfl, h1, h2, h3, h4, h5, h6, h7, h8⟩ := c_obj hE hW hc hk2.1 hi
    refine sp_needReg_in hk (sp_needObj_in hk2 h1 (by omega) ⟨gReg_in hk2, ?_⟩)
    rw [gReg_cl hk2, h1]
    refine sp_itsClass h5 ?_
    refine c_setReg hE hc hk (zo_ok_kid (hc.wf hE) (by simp) h3 List.mem_cons_self) ?_
    intro st' hc'
    rw [ao_cl h4] at h
    exact h _ _ ⟨_, sl, D, e1, e2, e3, e4, e5, e6, hc'⟩
  · have hq := h _ _ ⟨os, sl, D, e1, e2, e3, e4, e5, e6, hc⟩
    by_cases q : ∃ k, gReg a1 k
    · obtain ⟨k, hk⟩ := q
      exact sp_needReg_in hk (sp_needObj_out (hc.wf hE) hc.2.2 (fun z => hn ⟨⟨k, hk⟩, z⟩) ⟨rfl, hq⟩)
    · exact sp_needReg_out q ⟨rfl, hq⟩
theorem cL_setClass {pq : Int32 → (Nat → Int32) → Int32 → Prop} (hE : nE ≤ 8192) (hW : nW ≤ 65536) (hc : c_rep nW nE K G R f us P S sc li ro rd st) (hA : A_setClass G a1 a2 c G')
    (h : ∀ f' st', c_rep nW nE K G' R f' us P S sc li ro rd st' → pq c f' st') : wqL_setClass nW nE R f P st a1 a2 pq := by
  unfold wqL_setClass wqT_setClass
  obtain ⟨os, sl, D, e1, e2, e3, e4, e5, e6, hc⟩ := id hc
  have hw := hc.wf hE
  rcases hA with ⟨k, i, hk, ⟨k2, hk2, hi⟩, rfl, rfl⟩ | ⟨hn, rfl, rfl⟩
  · obtain ⟨pre, o, po, rfl, h1, h2, h3, h4, h5, h6, h7, h8⟩ := c_obj hE hW hc hk2.1 hi
    refine sp_needObj_in hk2 h1 (by omega) (sp_needReg_in hk ⟨gReg_in hk2, gReg_in hk, ?_⟩)
    rw [gReg_cl hk2, gReg_cl hk, h1]
    unfold wqM_setItsClass
    refine sp_place hE h6 ?_
    have hP := h5.2.1
    have hb4 := h5.2.2.2.1
    rw [hP, zi_2]
    have key : ∀ st', st' = 0 ∨ st' = st ∧ zo_dec (oC o) = none → c_rep nW nE K (gO_ G i (G.1 k, (G.2.1 i).2)) R (upd f ((zo_row pre).length + 2) (R k)) us P S sc li ro rd st' := by
      intro st' hst'
      have hm := c_mod (o' := (oE o, oI o, R k, oH o, oB o)) (f' := upd f ((zo_row pre).length + 2) (R k)) (st' := st') hE hc rfl rfl rfl rfl ?_ ?_ ?_
      · have hao : zo_ao bxC (pre ++ o :: po) (oE o, oI o, R k, oH o, oB o) = (G.1 k, (G.2.1 i).2) := by
          rw [← h4, ← hc.2.2.1 k hk.1]
          rfl
        rw [hao, h2] at hm
        exact ⟨_, sl, D, by rw [hm.2]; exact e1, e2, e3, e4, e5, e6, hm.1⟩
      · rw [zo_row_set (o := o) (k := 2) (x := R k) rfl (by rw [zo_flat_len]; omega)]
        exact zo_is_set hc.1.1.1
      · intro v hv
        rcases List.mem_cons.mp hv with q | q
        · rw [q]
          exact zo_ok_reg hw hk.1
        · exact zo_ok_kid hw (by simp) h3 (List.mem_cons_of_mem _ q)
      · rcases hst' with q | ⟨q, qn⟩
        · exact Or.inl q
        · refine Or.inr ⟨q, ?_⟩
          intro v hv e hd
          refine ⟨v, ?_, hd⟩
          rcases List.mem_cons.mp hv with q' | q'
          · rw [q', qn] at hd
            cases hd
          · exact List.mem_cons_of_mem _ q'
    refine sp_overwrite (by omega) hW h5.cl ((hw.2.2.1 o (by simp) _ List.mem_cons_self).V8 hw.2.1) (fun _ => h _ _ (key 0 (Or.inl rfl))) (fun q => h _ _ (key st (Or.inr ⟨rfl, q⟩)))
  · have hq := h _ _ ⟨os, sl, D, e1, e2, e3, e4, e5, e6, hc⟩
    by_cases q : ∃ i, gHas G' a1 i
    · obtain ⟨i, k2, hk2, hi⟩ := id q
      obtain ⟨pre, o, po, rfl, h1, h2, h3, h4, h5, h6, h7, h8⟩ := c_obj hE hW hc hk2.1 hi
      exact sp_needObj_in hk2 h1 (by omega) (sp_needReg_out (fun z => hn ⟨z, q⟩) ⟨rfl, hq⟩)
    · exact sp_needObj_out hw hc.2.2 q ⟨rfl, hq⟩
end CP

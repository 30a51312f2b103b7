/-! the class's bytePut, become, reaches -/
section CR
variable {nW nE D K : Nat} {os : List Ob_} {sl : List Nat} {G G' : G_} {R f P S ro rc : Nat → Int32} {us sc li rd st rn : Int32} {a b a1 a2 a3 c o_ w : Int32} {px : String → Prop} {ot : Nat → Int64} {e8 : Int64}
theorem gO_gO (G : G_) (i : Nat) (x y : AO_) : gO_ (gO_ G i x) i y = gO_ G i y := by
  unfold gO_
  show (G.1, g_set (g_set G.2.1 i x) i y, G.2.2) = _
  have : g_set (g_set G.2.1 i x) i y = g_set G.2.1 i y := by
    funext j
    unfold g_set
    split <;> rfl
  rw [this]
theorem gO_self (G : G_) (i : Nat) : gO_ G i (G.2.1 i) = G := by
  have : g_set G.2.1 i (G.2.1 i) = G.2.1 := by
    funext j
    unfold g_set
    split
    · rename_i q; rw [q]
    · rfl
  unfold gO_
  rw [this]
theorem shC_ok (a b : Nat) (ha : a < 4) (hb : b < 4) : (8 * a = 8 * b ↔ a = b) ∧ 8 * a ≤ 24 ∧ (8 * a = 8 * b ∨ 8 * a + 8 ≤ 8 * b ∨ 8 * b + 8 ≤ 8 * a) := by omega
theorem sl_odd {o : Ob_} (h : oH o % 2 = 1) : zo_slots o = [] := by
  unfold zo_slots
  rw [if_pos h]
/-- one byte of an object is written -/
theorem c_byte {pre po : List Ob_} {o : Ob_} {i k x : Nat} {v : Int32} {pq : (Nat → Int32) → Prop} (hE : nE ≤ 8192) (hW : nW ≤ 65536) (hc : c_core nW nE (pre ++ o :: po) sl D G R f P S ro st) (hk : k < 32) (hR : R k = ov_ (oE o)) (hi : oI o = i) (hh : oH o % 2 = 1) (hx : x < oH o / 2) (hv : ∃ b, b < 256 ∧ v = nI b)
    (h : ∀ f' o', oE o' = oE o → oI o' = oI o → oH o' = oH o → (zo_row (pre ++ o' :: po)).length = (zo_row (pre ++ o :: po)).length → c_core nW nE (pre ++ o' :: po) sl D (gO_ G i ((G.2.1 i).1, (G.2.1 i).2.1, (G.2.1 i).2.2.1, (G.2.1 i).2.2.2.set x v)) R f' P S ro st → pq f') :
    wqM_setOneByte nW nE f P (ov_ (oE o)) (nI x) v pq := by
  have hw := hc.wf hE
  have ho : o ∈ pre ++ o :: po := by simp
  have hr : zo_reach (pre ++ o :: po) R (oE o) := zo_reach_root hk (by rw [hR, zo_dec_ov (hw.2.1 o ho)])
  have h4 := hc.2.2.2 o ho hr
  rw [hi] at h4
  have h5 := hc.1.1.ob hE hW
  have h7 := (hc.1.1.2.2.2.1 o ho).2.1
  obtain ⟨hb, hlt⟩ := by_at h5 hh h7 hx
  obtain ⟨q1, q2, q3, q4, q5, q6, q7⟩ := id h5
  obtain ⟨b, hb256, rfl⟩ := hv
  unfold wqM_setOneByte wqM_shiftOf
  refine sp_place hE q1 ?_
  rw [q2, zi_4, zi_shr2 (by omega), nI_add, zi_3m (by omega)]
  refine sp_word hW (by omega) ?_
  rw [hb]
  refine sp_setWord hW (by omega) ?_
  have hm := c_mod (o' := (oE o, oI o, oC o, oH o, (oB o).set (x / 4) (((oB o).getD (x / 4) 0 &&& (((255 : Int32) <<< (nI (8 * (x % 4)) &&& (31 : Int32))) ^^^ (-1 : Int32))) ||| (nI b <<< (nI (8 * (x % 4)) &&& (31 : Int32))))))
    (f' := upd f ((zo_row pre).length + 4 + x / 4) (((oB o).getD (x / 4) 0 &&& (((255 : Int32) <<< (nI (8 * (x % 4)) &&& (31 : Int32))) ^^^ (-1 : Int32))) ||| (nI b <<< (nI (8 * (x % 4)) &&& (31 : Int32))))) (st' := st) hE hc rfl rfl rfl (by show ((oB o).set _ _).length = _; simp) ?_ ?_ ?_
  · have hao : zo_ao bxC (pre ++ o :: po) (oE o, oI o, oC o, oH o, (oB o).set (x / 4) (((oB o).getD (x / 4) 0 &&& (((255 : Int32) <<< (nI (8 * (x % 4)) &&& (31 : Int32))) ^^^ (-1 : Int32))) ||| (nI b <<< (nI (8 * (x % 4)) &&& (31 : Int32))))) = ((G.2.1 i).1, (G.2.1 i).2.1, (G.2.1 i).2.2.1, (G.2.1 i).2.2.2.set x (nI b)) := by
      rw [ao_cl h4, ao_sh h4, ao_sl h4, ao_by h4, if_pos hh, sl_odd hh]
      unfold zo_ao
      rw [sl_odd (by show oH o % 2 = 1; exact hh), if_pos (by show oH o % 2 = 1; exact hh)]
      have hset := bx_set (bx := bxC) (sh := fun t => 8 * t) (l := oB o) (i := x) (n := oH o / 2) (b := b) (s := nI (8 * (x % 4)) &&& (31 : Int32)) (fun _ _ => rfl) (fun p q hp hq => shC_ok p q hp hq) hb256 (by rw [h7, bW_odd hh]) hx (sh_s x)
      show (zv_ _ (oC o), oH o, [].map _, (List.range (oH o / 2)).map (bxC ((oB o).set _ _))) = _
      rw [hset]
    rw [hao] at hm
    rw [hi] at hm
    refine h _ _ ?_ ?_ ?_ hm.2 hm.1
    · rfl
    · exact hi.symm
    · rfl
  · rw [zo_row_set (o := o) (k := 4 + x / 4) (x := ((oB o).getD (x / 4) 0 &&& (((255 : Int32) <<< (nI (8 * (x % 4)) &&& (31 : Int32))) ^^^ (-1 : Int32))) ||| (nI b <<< (nI (8 * (x % 4)) &&& (31 : Int32))))]
    · rw [show (zo_row pre).length + (4 + x / 4) = (zo_row pre).length + 4 + x / 4 by omega]
      exact zo_is_set hc.1.1.1
    · show _ :: _ :: _ :: _ :: (oB o).set (x / 4) _ = (_ :: _ :: _ :: _ :: oB o).set (4 + x / 4) _
      rw [show 4 + x / 4 = x / 4 + 1 + 1 + 1 + 1 by omega]
      rfl
    · rw [zo_flat_len]; omega
  · intro v hv
    unfold zo_kids at hv
    rw [sl_odd (by show oH o % 2 = 1; exact hh)] at hv
    have : v = oC o := by simpa using hv
    rw [this]
    exact zo_ok_kid hw ho hr List.mem_cons_self
  · refine Or.inr ⟨rfl, fun v hv e hd => ⟨v, ?_, hd⟩⟩
    unfold zo_kids at hv ⊢
    rw [sl_odd hh] at hv
    rw [sl_odd (by show oH o % 2 = 1; exact hh)]
    exact hv
theorem cL_bytePut {pq : Int32 → (Nat → Int32) → Prop} (hE : nE ≤ 8192) (hW : nW ≤ 65536) (hc : c_rep nW nE K G R f us P S sc li ro rd st) (hA : A_bytePut G a1 a2 e8 c G')
    (h : ∀ f', c_rep nW nE K G' R f' us P S sc li ro rd st → pq c f') : wqL_bytePut nW nE R f P a1 a2 e8 pq := by
  unfold wqL_bytePut wqT_bytePut
  obtain ⟨os, sl, D, e1, e2, e3, e4, e5, e6, hc'⟩ := id hc
  rcases hA with ⟨i, j, ⟨⟨k, hk, hi⟩, hod⟩, hj, rfl, rfl⟩ | ⟨i, ⟨⟨k, hk, hi⟩, hod⟩, hj, rfl, rfl⟩ | ⟨hn, rfl, rfl⟩
  · obtain ⟨pre, o, po, rfl, h1, h2, h3, h4, h5, h6, h7, h8⟩ := c_obj hE hW hc' hk.1 hi
    rw [ao_sh h4] at hod hj
    refine sp_needBytes_in hk h1 h5 hod (sp_needIndex_in hk h1 h5 hj ⟨gReg_in hk, ?_⟩)
    obtain ⟨hj1, rfl⟩ := hj
    rw [gReg_cl hk, h1]
    refine sp_count h5 ⟨min 8 (oH o / 2 - j) + 1, ?_⟩
    have hmin : (if (nI (oH o / 2) - nI j) < (8 : Int32) then (nI (oH o / 2) - nI j) else (8 : Int32)) = nI (min 8 (oH o / 2 - j)) := by
      rw [pk_sub (by omega), show (8 : Int32) = nI 8 from rfl]
      by_cases q : oH o / 2 - j < 8
      · rw [if_pos (nI_lt q (by omega)), Nat.min_eq_right (by omega)]
      · rw [if_neg (nI_nlt (by omega) (by omega)), Nat.min_eq_left (by omega)]
    rw [hmin]
    rw [ao_sh h4] at h
    have loop : ∀ (m t : Nat) (o2 : Ob_) (f2 : Nat → Int32), t + m = min 8 (oH o / 2 - j) → oE o2 = oE o → oI o2 = oI o → oH o2 = oH o → (zo_row (pre ++ o2 :: po)).length = (zo_row (pre ++ o :: po)).length →
        c_core nW nE (pre ++ o2 :: po) sl D (gO_ G i ((G.2.1 i).1, (G.2.1 i).2.1, (G.2.1 i).2.2.1, gPut e8 j t (G.2.1 i).2.2.2)) R f2 P S ro st →
        wqT_bytePut_40 nW nE R P a1 (nI j) e8 (ov_ (oE o)) (nI (min 8 (oH o / 2 - j))) (fun f_4 => pq (0 : Int32) f_4) (fun E f_4 => (E = "java/lang/IllegalArgumentException" ∧ (pq (1 : Int32) f_4)) ∨ (E = "java/lang/IndexOutOfBoundsException" ∧ (pq (2 : Int32) f_4))) (fun z7_40 fe_40 => pq (0 : Int32) fe_40) (m + 1) (nI t) f2 := by
      intro m
      induction m with
      | zero =>
        intro t o2 f2 ht q1 q2 q3 q4 hc2
        unfold wqT_bytePut_40
        refine ⟨fun _ => ?_, fun z => absurd (nI_le (by omega) (by omega)) z⟩
        have : t = min 8 (oH o / 2 - j) := by omega
        rw [this] at hc2
        rw [ao_sh h4] at hc2
        exact h _ ⟨_, sl, D, by rw [q4]; exact e1, e2, e3, e4, e5, e6, hc2⟩
      | succ m ih =>
        intro t o2 f2 ht q1 q2 q3 q4 hc2
        unfold wqT_bytePut_40
        refine ⟨fun z => absurd z (nI_ge (by omega) (by omega)), fun _ => ?_⟩
        rw [nI_add, zi_1]
        show wqM_setOneByte nW nE f2 P (ov_ (oE o)) (nI (j + t)) (gB8 e8 t) _
        rw [← q1]
        have hmx : min 8 (oH o / 2 - j) ≤ oH o / 2 - j := Nat.min_le_right _ _
        refine c_byte hE hW hc2 hk.1 (by rw [q1]; exact h1) (i := i) (by rw [q2]; exact h2) (by rw [q3]; exact hod) (by rw [q3]; omega) (gB8_lt e8 t) ?_
        intro f3 o3 p1 p2 p3 p4 hc3
        have hs : (gO_ G i ((G.2.1 i).1, (G.2.1 i).2.1, (G.2.1 i).2.2.1, gPut e8 j t (G.2.1 i).2.2.2)).2.1 i = ((G.2.1 i).1, (G.2.1 i).2.1, (G.2.1 i).2.2.1, gPut e8 j t (G.2.1 i).2.2.2) := g_set_s
        rw [hs, gO_gO] at hc3
        rw [q1]
        exact ih (t + 1) o3 f3 (by omega) (by rw [p1, q1]) (by rw [p2, q2]) (by rw [p3, q3]) (by rw [p4, q4]) hc3
    refine loop (min 8 (oH o / 2 - j)) 0 o f (by omega) rfl rfl rfl rfl ?_
    show c_core nW nE (pre ++ o :: po) sl D (gO_ G i (G.2.1 i)) R f P S ro st
    rw [gO_self]
    exact hc'
  · obtain ⟨pre, o, po, rfl, h1, h2, h3, h4, h5, h6, h7, h8⟩ := c_obj hE hW hc' hk.1 hi
    rw [ao_sh h4] at hod hj
    exact sp_needBytes_in hk h1 h5 hod (sp_needIndex_out hk h1 h5 hj (Or.inr ⟨rfl, h _ hc⟩))
  · exact sp_needBytes_out hE hW hc' hn (Or.inl ⟨rfl, h _ hc⟩)
/-! become -/
theorem zo_sep {pre po pre' po' : List Ob_} {o o' : Ob_} (h : pre ++ o :: po = pre' ++ o' :: po') : (pre = pre' ∧ o = o' ∧ po = po') ∨ (zo_row pre).length + (4 + (oB o).length) ≤ (zo_row pre').length ∨ (zo_row pre').length + (4 + (oB o').length) ≤ (zo_row pre).length := by
  rcases List.append_eq_append_iff.mp h with ⟨x, h1, h2⟩ | ⟨x, h1, h2⟩
  · cases x with
    | nil =>
      simp at h1 h2
      exact Or.inl ⟨h1.symm, h2.1, h2.2⟩
    | cons y x =>
      simp at h2
      obtain ⟨rfl, rfl⟩ := h2
      refine Or.inr (Or.inl ?_)
      rw [h1, zo_row_app]
      show _ ≤ (zo_row pre ++ (zo_flat o ++ zo_row x)).length
      rw [List.length_append, List.length_append, zo_flat_len]
      omega
  · cases x with
    | nil =>
      simp at h1 h2
      exact Or.inl ⟨h1, h2.1.symm, h2.2.symm⟩
    | cons y x =>
      simp at h2
      obtain ⟨rfl, rfl⟩ := h2
      refine Or.inr (Or.inr ?_)
      rw [h1, zo_row_app]
      show _ ≤ (zo_row pre' ++ (zo_flat o' ++ zo_row x)).length
      rw [List.length_append, List.length_append, zo_flat_len]
      omega
theorem zo_row_map {g : Ob_ → Ob_} (hg : ∀ o, (oB (g o)).length = (oB o).length) : ∀ l : List Ob_, (zo_row (l.map g)).length = (zo_row l).length := by
  intro l
  induction l with
  | nil => rfl
  | cons o l ih =>
    show (zo_flat (g o) ++ zo_row (l.map g)).length = (zo_flat o ++ zo_row l).length
    rw [List.length_append, List.length_append, ih, zo_flat_len, zo_flat_len, hg]
theorem zo_is_map {g : Ob_ → Ob_} {f' : Nat → Int32} (hg : ∀ o, (oB (g o)).length = (oB o).length) : ∀ (l pre : List Ob_), (∀ p1 o p2, pre ++ l = p1 ++ o :: p2 → zo_is f' (zo_flat (g o)) (zo_row p1).length) → zo_is f' (zo_row (l.map g)) (zo_row pre).length := by
  intro l
  induction l with
  | nil => intro pre _; exact zo_is_nil
  | cons o l ih =>
    intro pre h
    show zo_is f' (zo_flat (g o) ++ zo_row (l.map g)) _
    rw [zo_is_app]
    refine ⟨h pre o l rfl, ?_⟩
    have := ih (pre ++ [o]) (fun p1 x p2 he => h p1 x p2 (by rw [← he]; simp))
    rw [zo_row_snoc, List.length_append, zo_flat_len] at this
    rw [zo_flat_len, hg]
    exact this
theorem cL_become {pq : Int32 → (Nat → Int32) → (Nat → Int32) → Prop} (hE : nE ≤ 8192) (hW : nW ≤ 65536) (hc : c_rep nW nE K G R f us P S sc li ro rd st) (hA : A_become G a1 a2 c G')
    (h : ∀ f' P', c_rep nW nE K G' R f' us P' S sc li ro rd st → pq c f' P') : wqL_become nW nE R f P a1 a2 pq := by
  unfold wqL_become wqT_become
  obtain ⟨os, sl, D, e1, e2, e3, e4, e5, e6, hc'⟩ := id hc
  have hw := hc'.wf hE
  rcases hA with ⟨i, j, ⟨k, hk, hi⟩, ⟨k2, hk2, hj⟩, rfl, rfl⟩ | ⟨hn, rfl, rfl⟩
  · obtain ⟨pre, x, po, hos, h1, h2, h3, h4, h5, h6, h7, h8⟩ := c_obj hE hW hc' hk.1 hi
    obtain ⟨pre2, y, po2, hos2, g1, g2, g3, g4, g5, g6, g7, g8⟩ := c_obj hE hW hc' hk2.1 hj
    refine sp_needObj_in hk h1 (by omega) (sp_needObj_in hk2 g1 (by omega) ⟨gReg_in hk, gReg_in hk2, ?_⟩)
    rw [gReg_cl hk, gReg_cl hk2, h1, g1]
    have hxm : x ∈ os := by rw [hos]; simp
    have hym : y ∈ os := by rw [hos2]; simp
    unfold wqM_swap
    refine sp_place hE h6 (sp_place hE g6 (sp_toEntry (by omega) ?_))
    have q4 := h5.2.2.2.1
    have q4' := g5.2.2.2.1
    rw [h5.2.1, g5.2.1]
    refine sp_seat hE hW h6 (by omega) (sp_toEntry (by omega) (sp_seat hE hW g6 (by omega) ?_))
    obtain ⟨c1, c2, c3⟩ := id hc'
    obtain ⟨i1, i2, i3, i4, i5, i6, i7, i8, i9⟩ := id c1
    obtain ⟨r1, r2, r3, r4, r5, r6⟩ := id i1
    obtain ⟨b1, b2, b3⟩ := zo_become hw c3 hxm hym hk.1 hk2.1 (by rw [h1, zo_dec_ov (by omega)]) (by rw [g1, zo_dec_ov (by omega)])
    have hgl : ∀ o : Ob_, (oB (zo_swo (oE x) (oE y) o)).length = (oB o).length := fun _ => rfl
    have hne : ∀ {p1 p2 : List Ob_} {o : Ob_}, os = p1 ++ o :: p2 → o ≠ x → (zo_row p1).length ≠ (zo_row pre).length := by
      intro p1 p2 o he hox e
      rcases zo_sep (he.symm.trans hos) with ⟨-, q, -⟩ | q | q
      · exact hox q
      · omega
      · omega
    have hne2 : ∀ {p1 p2 : List Ob_} {o : Ob_}, os = p1 ++ o :: p2 → o ≠ y → (zo_row p1).length ≠ (zo_row pre2).length := by
      intro p1 p2 o he hox e
      rcases zo_sep (he.symm.trans hos2) with ⟨-, q, -⟩ | q | q
      · exact hox q
      · omega
      · omega
    have heq : ∀ {p1 p2 : List Ob_}, os = p1 ++ x :: p2 → (zo_row p1).length = (zo_row pre).length := by
      intro p1 p2 he
      have ha := r3 p1 x p2 he
      rw [h5.2.1, nI_eq (by omega) ?_] at ha
      · exact ha.symm
      · have : (zo_row os).length = (zo_row p1).length + (zo_row (x :: p2)).length := by rw [he, zo_row_app, List.length_append]
        omega
    have heq2 : ∀ {p1 p2 : List Ob_}, os = p1 ++ y :: p2 → (zo_row p1).length = (zo_row pre2).length := by
      intro p1 p2 he
      have ha := r3 p1 y p2 he
      rw [g5.2.1, nI_eq (by omega) ?_] at ha
      · exact ha.symm
      · have : (zo_row os).length = (zo_row p1).length + (zo_row (y :: p2)).length := by rw [he, zo_row_app, List.length_append]
        omega
    have hlen : (zo_row (os.map (zo_swo (oE x) (oE y)))).length = (zo_row os).length := zo_row_map hgl os
    rw [h2, g2] at b2
    refine h _ _ ⟨os.map (zo_swo (oE x) (oE y)), sl, D, by rw [hlen]; exact e1, e2, e3, e4, e5, e6, ⟨⟨⟨?_, by rw [hlen]; exact r2, ?_, ?_, b1.1, b1.2.2.1⟩, b1.2.2.2.1, i3, ?_, i5, ?_, ?_, ?_, i9⟩, ?_, b2⟩⟩
    · have := zo_is_map (f' := upd (upd f (zo_row pre2).length (nI (oE x))) (zo_row pre).length (nI (oE y))) (g := zo_swo (oE x) (oE y)) hgl os [] ?_
      · exact this
      · intro p1 o p2 he
        rw [List.nil_append] at he
        have hom : o ∈ os := by rw [he]; simp
        intro t z hz
        have hft : ∀ t z, (zo_flat o)[t]? = some z → f ((zo_row p1).length + t) = z := by
          have hr1 := r1
          rw [he, zo_row_app, zo_is_app] at hr1
          have hr2 := hr1.2
          rw [show zo_row (o :: p2) = zo_flat o ++ zo_row p2 from rfl, zo_is_app] at hr2
          intro t z hz
          have := hr2.1 t z hz
          rwa [Nat.zero_add] at this
        cases t with
        | zero =>
          have hz' : z = nI (zo_sw (oE x) (oE y) (oE o)) := (Option.some.inj hz).symm
          rw [hz', Nat.add_zero]
          unfold zo_sw
          by_cases cx : o = x
          · subst cx
            rw [if_pos rfl, heq he, pk_us]
          · rw [if_neg (fun q => cx (zo_one r5 hom hxm q)), pk_un (hne he cx)]
            by_cases cy : o = y
            · subst cy
              rw [if_pos rfl, heq2 he, pk_us]
            · rw [if_neg (fun q => cy (zo_one r5 hom hym q)), pk_un (hne2 he cy)]
              exact hft 0 _ rfl
        | succ t =>
          have hz2 : (zo_flat o)[t + 1]? = some z := hz
          have hlt : t + 1 < 4 + (oB o).length := by
            have := (List.getElem?_eq_some_iff.mp hz2).1
            rwa [zo_flat_len] at this
          rw [pk_un, pk_un]
          · exact hft _ _ hz2
          · rcases zo_sep (he.symm.trans hos2) with ⟨q, -, -⟩ | q | q
            · rw [q]; omega
            · omega
            · omega
          · rcases zo_sep (he.symm.trans hos) with ⟨q, -, -⟩ | q | q
            · rw [q]; omega
            · omega
            · omega
    · intro p1 o p2 he
      obtain ⟨q1, q2, hq, hq1, hq2⟩ := List.map_eq_append_iff.mp he
      obtain ⟨o', q3, hq3, hq4, hq5⟩ := List.map_eq_cons_iff.mp hq2
      subst hq3
      have hom : o' ∈ os := by rw [hq]; simp
      rw [← hq1, zo_row_map hgl, ← hq4]
      show upd (upd P (oE x) (nI (zo_row pre2).length)) (oE y) (nI (zo_row pre).length) (zo_sw (oE x) (oE y) (oE o')) = _
      unfold zo_sw
      by_cases cx : o' = x
      · subst cx
        rw [if_pos rfl, pk_us, heq hq]
      · rw [if_neg (fun q => cx (zo_one r5 hom hxm q))]
        by_cases cy : o' = y
        · subst cy
          rw [if_pos rfl, pk_un (fun q => cx (zo_one r5 hom hxm q.symm)), pk_us, heq2 hq]
        · rw [if_neg (fun q => cy (zo_one r5 hom hym q)), pk_un (fun q => cy (zo_one r5 hom hym q)), pk_un (fun q => cx (zo_one r5 hom hxm q))]
          exact r3 q1 o' q3 hq
    · intro o ho
      obtain ⟨o', ho', rfl⟩ := List.mem_map.mp ho
      refine ⟨?_, (r4 o' ho').2.1, (r4 o' ho').2.2⟩
      show zo_sw (oE x) (oE y) (oE o') < nE
      unfold zo_sw
      split
      · exact g6
      · split
        · exact h6
        · exact (r4 o' ho').1
    · rw [List.nodup_append] at i4 ⊢
      refine ⟨i4.1, b1.1, ?_⟩
      intro s hs t ht
      obtain ⟨o, ho, rfl⟩ := List.mem_map.mp ht
      obtain ⟨o', ho', rfl⟩ := List.mem_map.mp ho
      show s ≠ zo_sw (oE x) (oE y) (oE o')
      unfold zo_sw
      split
      · exact i4.2.2 s hs _ (List.mem_map_of_mem hym)
      · split
        · exact i4.2.2 s hs _ (List.mem_map_of_mem hxm)
        · exact i4.2.2 s hs _ (List.mem_map_of_mem ho')
    · rw [List.length_map]; exact i6
    · rw [List.map_map]; exact i7
    · intro o ho
      obtain ⟨o', ho', rfl⟩ := List.mem_map.mp ho
      exact i8 o' ho'
    · rcases c2 with c2 | ⟨c2, c4⟩
      · exact Or.inl c2
      · refine Or.inr ⟨c2, fun o ho => ?_⟩
        obtain ⟨o', ho', rfl⟩ := List.mem_map.mp ho
        exact (b3 o' ho').mpr (c4 o' ho')
  · by_cases q : ∃ i, gHas G' a1 i
    · obtain ⟨i, k, hk, hi⟩ := id q
      obtain ⟨pre, x, po, hos, h1, h2, h3, h4, h5, h6, h7, h8⟩ := c_obj hE hW hc' hk.1 hi
      exact sp_needObj_in hk h1 (by omega) (sp_needObj_out hw hc'.2.2 (fun z => hn ⟨q, z⟩) ⟨rfl, h _ _ hc⟩)
    · exact sp_needObj_out hw hc'.2.2 q ⟨rfl, h _ _ hc⟩
/-! reaches -/
theorem zo_J_one {x : Nat} {rl : List Nat} (hx : x < 8192) (h : zo_J os [x] rl rl.length) (e : Nat) : e ∈ rl ↔ zo_reach os (fun _ => ov_ x) e := by
  obtain ⟨h1, h2, h3, h4⟩ := h
  constructor
  · intro he X hX hc
    refine h3 e he X (fun y hy => ?_) hc
    have : y = x := by simpa using hy
    rw [this]
    exact hX 0 (by omega) x (zo_dec_ov hx)
  · intro he
    refine he (fun x => x ∈ rl) (fun r hr y hd => ?_) ?_
    · rw [zo_dec_ov hx] at hd
      cases hd
      exact h1 x (by simp)
    · intro o ho hin v hv y hd
      obtain ⟨k, hk⟩ := List.getElem?_of_mem hin
      exact h4 k (oE o) hk (List.getElem?_eq_some_iff.mp hk).1 o ho rfl v hv y hd
/-- reaching from one object, here and in the store -/
theorem zo_from {bx : List Int32 → Nat → Int32} {x y : Ob_} (hw : zo_wf os R) (h : zo_abs bx os R G.1 G.2.1) (hx : x ∈ os) (hy : y ∈ os) (hr : zo_reach os R (oE x)) : zo_reach os (fun _ => ov_ (oE x)) (oE y) ↔ g_reach (fun _ => .inr (oI x)) G.2.1 (oI y) := by
  obtain ⟨w1, w2, w3, w4, w5, w6⟩ := id hw
  have hsub : ∀ e, zo_reach os (fun _ => ov_ (oE x)) e → zo_reach os R e := by
    intro e he X hX hc
    refine he X (fun r hr' e' hd => ?_) hc
    rw [zo_dec_ov (w2 x hx)] at hd
    cases hd
    exact hr X hX hc
  have hw' : zo_wf os (fun _ => ov_ (oE x)) := ⟨w1, w2, w3, fun _ _ => Or.inr ⟨x, hx, rfl⟩, w5, w6⟩
  have ha' : zo_abs bx os (fun _ => ov_ (oE x)) (fun _ => .inr (oI x)) G.2.1 := ⟨fun _ _ => zv_ov w1 hx (w2 x hx), fun o ho hro => h.2 o ho (hsub _ hro)⟩
  constructor
  · exact fun q => zo_to_g hw' ha' hy q
  · intro q
    obtain ⟨o, ho, hi, hro⟩ := g_to_zo hw' ha' q
    rw [← zo_id_one w5 ho hy hi]
    exact hro
theorem cL_reaches {pq : Int32 → (Nat → Int32) → Int32 → (Nat → Int32) → Int32 → (Nat → Int64) → Prop} (hE : nE ≤ 8192) (hW : nW ≤ 65536) (hK : K + 1 < 2 ^ 31) (hc : c_rep nW nE K G R f us P S sc li ro rd st) (hA : A_reaches G a1 a2 c o_ G')
    (h : ∀ rc' rn' ro' rd' ot', (c = 0 → ot' 0 = o_.toInt64) → c_rep nW nE (K + 1) G' R f us P S sc li ro' rd' st → pq c rc' rn' ro' rd' ot') : wqL_reaches nW nE R f P rc rn ro rd ot a1 a2 pq := by
  unfold wqL_reaches wqT_reaches
  obtain ⟨os, sl, D, e1, e2, e3, e4, e5, e6, hc'⟩ := id hc
  have hw := hc'.wf hE
  rcases hA with ⟨i, j, ⟨k, hk, hi⟩, ⟨k2, hk2, hj⟩, rfl, ho_, rfl⟩ | ⟨hn, rfl, rfl⟩
  · obtain ⟨pre, x, po, hos, h1, h2, h3, h4, h5, h6, h7, h8⟩ := c_obj hE hW hc' hk.1 hi
    obtain ⟨pre2, y, po2, hos2, g1, g2, g3, g4, g5, g6, g7, g8⟩ := c_obj hE hW hc' hk2.1 hj
    refine sp_needObj_in hk h1 (by omega) (sp_needObj_in hk2 g1 (by omega) ⟨gReg_in hk, gReg_in hk2, ?_⟩)
    rw [gReg_cl hk, gReg_cl hk2, h1, g1]
    have hxm : x ∈ os := by rw [hos]; simp
    have hym : y ∈ os := by rw [hos2]; simp
    obtain ⟨c1, c2, c3⟩ := id hc'
    obtain ⟨i1, i2, i3, i4, i5, i6, i7, i8, i9⟩ := id c1
    unfold wqM_leadsTo wqM_startRound
    rw [e4, zi_1]
    have hM0 : zo_Mv nE (D + 1) [] rc 0 ro := by
      refine ⟨rfl, zo_is_nil, List.nodup_nil, fun x hx => by simp at hx, fun e he => ?_, fun e he => ?_⟩
      · constructor
        · intro q
          obtain ⟨t, ht, q2⟩ := i9 e he
          rw [q, nI_eq (by omega) (by omega)] at q2
          omega
        · intro q; simp at q
      · obtain ⟨t, ht, q2⟩ := i9 e he
        exact ⟨t, by omega, q2⟩
    refine sp_reach_o hE (by omega) hM0 h6 ?_
    intro rc1 rn1 ro1 hM1
    rw [show zo_add [] (oE x) = [oE x] by unfold zo_add; simp] at hM1
    refine sp_spread hE hW (by omega) i1 hM1 (fun y hy => ⟨x, hxm, (List.mem_singleton.mp hy).symm⟩) ?_
    intro rl rc2 rn2 ro2 hM2 hJ
    refine sp_toEntry (by omega) ?_
    have hR := zo_J_one (by omega) hJ (oE y)
    rw [zo_from hw c3 hxm hym h3, h2, g2] at hR
    have hfin : c_rep nW nE (K + 1) G' R f us P S sc li ro2 (nI (D + 1)) st := ⟨os, sl, D + 1, e1, e2, e3, rfl, by omega, by omega, ⟨i1, i2, i3, i4, i5, i6, i7, i8, hM2.2.2.2.2.2⟩, c2, c3⟩
    refine sp_isReached hE g6 (fun q => ?_) (fun q => ?_)
    · have hin := hR.mp ((hM2.2.2.2.2.1 _ g6).mp q)
      have ho1 : o_ = 1 := by
        rcases ho_ with ⟨-, z⟩ | ⟨z, -⟩
        · exact z
        · exact absurd hin z
      refine ⟨by decide, by decide, fun z => absurd z (by decide), fun _ => ⟨vp01, h _ _ _ _ _ (fun _ => ?_) hfin⟩⟩
      rw [ot_, ho1]
      rfl
    · have hin : ¬ g_reach (fun _ => .inr i) G'.2.1 j := fun z => q ((hM2.2.2.2.2.1 _ g6).mpr (hR.mpr z))
      have ho1 : o_ = 0 := by
        rcases ho_ with ⟨z, -⟩ | ⟨-, z⟩
        · exact absurd z hin
        · exact z
      refine ⟨by decide, by decide, fun _ => ⟨vp01, h _ _ _ _ _ (fun _ => ?_) hfin⟩, fun z => absurd rfl z⟩
      rw [ot_, ho1]
      rfl
  · have hfin := h rc rn ro rd ot (fun z => absurd z (by decide)) (hc.mono (by omega))
    by_cases q : ∃ i, gHas G' a1 i
    · obtain ⟨i, k, hk, hi⟩ := id q
      obtain ⟨pre, x, po, hos, h1, h2, h3, h4, h5, h6, h7, h8⟩ := c_obj hE hW hc' hk.1 hi
      exact sp_needObj_in hk h1 (by omega) (sp_needObj_out hw hc'.2.2 (fun z => hn ⟨q, z⟩) ⟨rfl, hfin⟩)
    · exact sp_needObj_out hw hc'.2.2 q ⟨rfl, hfin⟩
end CR

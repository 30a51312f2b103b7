/-! the reference's calls that only read and write what is there -/
section RB
variable {nW nE L hi : Nat} {os : List Ob_} {cs : Nat → List Nat} {fl : List Nat} {G G' : G_} {mR mI mC mY mZ mF mL mN : Nat → Int32} {mfr mcd mwd men mmd mhi : Int32} {a b a1 a2 a3 c o_ : Int32}
theorem r_setReg {k : Nat} {v : Int32} (hc : r_core nW nE os cs fl hi G mR mI mC mY mZ mF mL mN mfr) (hv : zo_ok os mR v) : r_core nW nE os cs fl hi (gR_ G k (zv_ os v)) (upd mR k v) mI mC mY mZ mF mL mN mfr := by
  obtain ⟨c1, c2, c3, c4⟩ := hc
  obtain ⟨g1, g2, g3⟩ := zo_reg (r := k) c1 c2 hv
  exact ⟨g1, g2, c3, c4⟩
theorem r_mod {pre po : List Ob_} {o o' : Ob_} {mC' mL' : Nat → Int32} (hc : r_core nW nE (pre ++ o :: po) cs fl hi G mR mI mC mY mZ mF mL mN mfr) (hE : oE o' = oE o) (hI : oI o' = oI o) (hb : (oB o').length = bW_ (oH o')) (hk : ∀ v ∈ zo_kids o', zo_ok (pre ++ o :: po) mR v)
    (h1 : r_ob nE G.2.2 cs mI mC' mY mZ mF mL' mN o') (h2 : ∀ x ∈ pre ++ o :: po, x ≠ o → r_ob nE G.2.2 cs mI mC' mY mZ mF mL' mN x) : r_core nW nE (pre ++ o' :: po) cs fl hi (gO_ G (oI o) (zo_ao bxR (pre ++ o :: po) o')) mR mI mC' mY mZ mF mL' mN mfr := by
  obtain ⟨c1, c2, ⟨m1, m2, m3, m4⟩, c4, c5⟩ := hc
  obtain ⟨g1, g2, g3⟩ := zo_mod hE hI hb c1 c2 hk
  have hmem : ∀ x ∈ pre ++ o' :: po, x = o' ∨ (x ∈ pre ++ o :: po ∧ x ≠ o) := by
    intro x hx
    have w1 := c1.1
    rcases List.mem_append.mp hx with q | q
    · refine Or.inr ⟨List.mem_append_left _ q, fun e => ?_⟩
      subst e
      rw [List.map_append, List.nodup_append] at w1
      exact w1.2.2 (oE x) (List.mem_map_of_mem q) (oE x) (by simp) rfl
    · rcases List.mem_cons.mp q with q | q
      · exact Or.inl q
      · refine Or.inr ⟨List.mem_append_right _ (List.mem_cons_of_mem _ q), fun e => ?_⟩
        subst e
        rw [List.map_append, List.nodup_append, List.map_cons, List.nodup_cons] at w1
        exact w1.2.1.1 (List.mem_map_of_mem q)
  have hent : ∀ x ∈ pre ++ o :: po, ∃ y ∈ pre ++ o' :: po, oE y = oE x := by
    intro x hx
    rcases List.mem_append.mp hx with q | q
    · exact ⟨x, List.mem_append_left _ q, rfl⟩
    · rcases List.mem_cons.mp q with q | q
      · exact ⟨o', by simp, by rw [hE, q]⟩
      · exact ⟨x, List.mem_append_right _ (List.mem_cons_of_mem _ q), rfl⟩
  have hall : zc_all (pre ++ o' :: po) cs = zc_all (pre ++ o :: po) cs := by rw [zc_app, zc_app, zc_cons, zc_cons, hE]
  refine ⟨g1, g2, ⟨?_, ?_, m3, by rw [hall]; exact m4⟩, c4, ?_⟩
  · intro x hx
    rcases hmem x hx with q | ⟨q, q2⟩
    · rw [q]; exact h1
    · exact h2 x q q2
  · intro p hp hno
    refine m2 p hp (fun x hx e => ?_)
    obtain ⟨y, hy, hye⟩ := hent x hx
    exact hno y hy (by rw [hye, e])
  · intro p hp
    obtain ⟨x, hx, hxe⟩ := c5 p hp
    obtain ⟨y, hy, hye⟩ := hent x hx
    exact ⟨y, hy, by rw [hye, hxe]⟩
theorem map_upd_out {f : Nat → Int32} {x : Nat} {v : Int32} {l : List Nat} (h : x ∉ l) : l.map (upd f x v) = l.map f := List.map_congr_left (fun y hy => pk_un (fun e => h (e ▸ hy)))
theorem map_upd_in {f : Nat → Int32} {v : Int32} : ∀ (l : List Nat) (j x : Nat), l.Nodup → l[j]? = some x → l.map (upd f x v) = (l.map f).set j v := by
  intro l
  induction l with
  | nil => intro j x _ h; simp at h
  | cons y l ih =>
    intro j x hn h
    rw [List.nodup_cons] at hn
    cases j with
    | zero =>
      have : y = x := by simpa using h
      subst this
      rw [List.map_cons, List.map_cons, pk_us, map_upd_out hn.1]
      rfl
    | succ j =>
      have h' : l[j]? = some x := by simpa using h
      have hy : y ≠ x := fun e => hn.1 (e ▸ List.mem_of_getElem? h')
      rw [List.map_cons, List.map_cons, pk_un hy, ih j x hn.2 h']
      rfl
theorem rR_number {pq : Int32 → (Nat → Int32) → Prop} (hc : r_rep nW nE G mwd men mR mI mC mY mZ mF mmd mhi mL mN mfr) (hA : A_number G a b c G')
    (h : ∀ mR', r_rep nW nE G' mwd men mR' mI mC mY mZ mF mmd mhi mL mN mfr → pq c mR') : wqR_number mcd mR a b pq := by
  unfold wqR_number wqR_number_28
  rcases hA with ⟨k, hk, hb, rfl, rfl⟩ | ⟨hn, rfl, rfl⟩
  · obtain ⟨e1, e2, e3, os, cs, fl, hi, e4, hc⟩ := hc
    refine sr_isReg_in hk ⟨fun z => absurd z (by decide), fun _ => ⟨fun z => ?_, fun _ => ⟨fun z => ?_, fun _ => ⟨fun _ => ⟨gReg_in hk, ?_⟩, fun z => absurd rfl z⟩⟩⟩⟩
    · rw [Int32.lt_iff_toInt_lt] at z
      have := hb.1
      have e : (-1073741824 : Int32).toInt = -1073741824 := rfl
      omega
    · rw [Int32.lt_iff_toInt_lt] at z
      have := hb.2
      have e : (1073741823 : Int32).toInt = 1073741823 := rfl
      omega
    · rw [gReg_cl hk]
      have hv : nv_ b = 0 ∨ ¬ nv_ b &&& (1 : Int32) = 0 := Or.inr (nv_and0 b)
      have := r_setReg (k := k) hc (zo_ok_n (v := nv_ b) hv)
      rw [zv_n hv] at this
      exact h _ ⟨e1, e2, e3, os, cs, fl, hi, e4, this⟩
  · have hq := h mR hc
    have bad : ((1 : Int32) = 0 → (vp_in a 32 ∧ (pq 1 (upd mR a.toNatClampNeg (((2 : Int32) * b) + (1 : Int32)))))) ∧ (¬ ((1 : Int32) = 0) → (pq 1 mR)) := ⟨fun z => absurd z (by decide), fun _ => hq⟩
    by_cases q : ∃ k, gReg a k
    · obtain ⟨k, hk⟩ := id q
      refine sr_isReg_in hk ⟨fun z => absurd z (by decide), fun _ => ⟨fun _ => bad, fun z1 => ⟨fun _ => bad, fun z2 => ?_⟩⟩⟩
      rw [Int32.lt_iff_toInt_lt] at z1 z2
      have e : (-1073741824 : Int32).toInt = -1073741824 := rfl
      have e' : (1073741823 : Int32).toInt = 1073741823 := rfl
      exact absurd ⟨q, by omega, by omega⟩ hn
    · exact sr_isReg_out q ⟨fun _ => bad, fun z => absurd rfl z⟩
theorem rR_move {pq : Int32 → (Nat → Int32) → Prop} (hc : r_rep nW nE G mwd men mR mI mC mY mZ mF mmd mhi mL mN mfr) (hA : A_move G a b c G')
    (h : ∀ mR', r_rep nW nE G' mwd men mR' mI mC mY mZ mF mmd mhi mL mN mfr → pq c mR') : wqR_move mcd mR a b pq := by
  unfold wqR_move wqR_move_23
  rcases hA with ⟨k, j, hk, hj, rfl, rfl⟩ | ⟨hn, rfl, rfl⟩
  · obtain ⟨e1, e2, e3, os, cs, fl, hi, e4, hc⟩ := hc
    refine sr_isReg_in hk ⟨fun z => absurd z (by decide), fun _ => sr_isReg_in hj ⟨fun z => absurd z (by decide), fun _ => ⟨fun _ => ⟨gReg_in hj, gReg_in hk, ?_⟩, fun z => absurd rfl z⟩⟩⟩
    rw [gReg_cl hk, gReg_cl hj]
    have := r_setReg (k := k) hc (zo_ok_reg hc.1 hj.1)
    rw [hc.2.1.1 j hj.1] at this
    exact h _ ⟨e1, e2, e3, os, cs, fl, hi, e4, this⟩
  · have hq := h mR hc
    by_cases q : ∃ k, gReg a k
    · obtain ⟨k, hk⟩ := id q
      exact sr_isReg_in hk ⟨fun z => absurd z (by decide), fun _ => sr_isReg_out (fun z => hn ⟨q, z⟩) ⟨fun _ => ⟨fun z => absurd z (by decide), fun _ => hq⟩, fun z => absurd rfl z⟩⟩
    · exact sr_isReg_out q ⟨fun _ => ⟨fun z => absurd z (by decide), fun _ => hq⟩, fun z => absurd rfl z⟩
theorem rR_clear {pq : Int32 → (Nat → Int32) → Prop} (hc : r_rep nW nE G mwd men mR mI mC mY mZ mF mmd mhi mL mN mfr) (hA : A_clear G a c G')
    (h : ∀ mR', r_rep nW nE G' mwd men mR' mI mC mY mZ mF mmd mhi mL mN mfr → pq c mR') : wqR_clear mcd mR a pq := by
  unfold wqR_clear wqR_clear_16
  rcases hA with ⟨k, hk, rfl, rfl⟩ | ⟨hn, rfl, rfl⟩
  · obtain ⟨e1, e2, e3, os, cs, fl, hi, e4, hc⟩ := hc
    refine sr_isReg_in hk ⟨fun z => absurd z (by decide), fun _ => ⟨fun _ => ⟨gReg_in hk, ?_⟩, fun z => absurd rfl z⟩⟩
    rw [gReg_cl hk]
    have := r_setReg (k := k) hc (zo_ok_n (v := 0) (Or.inl rfl))
    rw [zv_n (Or.inl rfl)] at this
    exact h _ ⟨e1, e2, e3, os, cs, fl, hi, e4, this⟩
  · exact sr_isReg_out hn ⟨fun _ => ⟨fun z => absurd z (by decide), fun _ => h mR hc⟩, fun z => absurd rfl z⟩
theorem ix_nlt {n j : Nat} (hn : n < 2 ^ 31) (h : gIx a n j) : ¬ a < 0 ∧ a < nI n ∧ ¬ nI n ≤ a := by
  obtain ⟨h1, rfl⟩ := h
  exact ⟨nI_pos (by omega), nI_lt h1 hn, nI_ge h1 hn⟩
theorem ix_out {n : Nat} (hn : n < 2 ^ 31) (h : ¬ ∃ j, gIx a n j) (h0 : ¬ a < 0) : ¬ a < nI n ∧ nI n ≤ a := by
  obtain ⟨j, hj, rfl⟩ := nI_of h0
  have : n ≤ j := by
    rcases Nat.lt_or_ge j n with q | q
    · exact absurd ⟨j, q, rfl⟩ h
    · exact q
  exact ⟨nI_nlt this hj, nI_le this hj⟩
theorem cs_some {o : Ob_} {j : Nat} {x : Int32} (ho : r_ob nE L cs mI mC mY mZ mF mL mN o) (hx : (oB o)[j]? = some x) : ∃ y, (cs (oE o))[j]? = some y ∧ mL y = x := by
  have h9 := ho.2.2.2.2.2.2.2.2
  rw [← h9, List.getElem?_map] at hx
  cases hq : (cs (oE o))[j]? with
  | none => rw [hq] at hx; cases hx
  | some y =>
    rw [hq] at hx
    exact ⟨y, rfl, Option.some.inj hx⟩
theorem rR_get {pq : Int32 → (Nat → Int32) → Prop} (hE : nE ≤ 8192) (hW : nW ≤ 65536) (hc : r_rep nW nE G mwd men mR mI mC mY mZ mF mmd mhi mL mN mfr) (hA : A_get G a1 a2 a3 c G')
    (h : ∀ mR', r_rep nW nE G' mwd men mR' mI mC mY mZ mF mmd mhi mL mN mfr → pq c mR') : wqR_get mcd mR mY mZ mF mL mN a1 a2 a3 pq := by
  unfold wqR_get
  obtain ⟨e1, e2, e3, os, cs, fl, hi, e4, hc'⟩ := id hc
  rcases hA with ⟨k, i, j, hk, ⟨⟨k2, hk2, hi'⟩, hev⟩, hj, rfl, rfl⟩ | ⟨k, i, hk, ⟨⟨k2, hk2, hi'⟩, hev⟩, hj, rfl, rfl⟩ | ⟨hn, rfl, rfl⟩
  · obtain ⟨o, ho, h1, h2, h3, h4, h5, h6, h7⟩ := r_obj hE hc' hk2.1 hi'
    rw [ao_sh h4] at hev hj
    have hH := h5.2.2.1
    obtain ⟨j1, j2, j3⟩ := ix_nlt (by omega) hj
    refine sr_isReg_in hk ⟨fun z => absurd z (by decide), fun _ => sr_hasSlots_in hE hk2 h1 h5 hev ⟨fun z => absurd z (by decide), fun _ => ?_⟩⟩
    unfold wqR_get_22
    refine ⟨fun z => absurd z (by decide), fun _ => ⟨fun z => absurd z j1, fun _ => sr_sizeOf hE hk2 h1 h5 ⟨fun _ => ?_, fun z => absurd j2 z⟩⟩⟩
    unfold wqR_get_53
    refine ⟨fun _ => ⟨gReg_in hk2, ?_⟩, fun z => absurd rfl z⟩
    rw [gReg_cl hk2, h1, gReg_cl hk]
    obtain ⟨x, hx⟩ := ix_some hev h6 hj.1
    obtain ⟨y, hy, hyx⟩ := cs_some h5 hx
    obtain ⟨hj1, rfl⟩ := hj
    have hyl := r_clt hc'.2.2.1.2.2.2 ho (List.mem_of_getElem? hy)
    refine sr_placeOf h7 (sr_cellAt hE hW hc'.2.2.1 ho (by omega) hy ?_)
    rw [nI_clamp (by omega), hyx]
    refine ⟨vp_in_nI (by omega) (by omega), gReg_in hk, ?_⟩
    have := r_setReg (k := k) hc' (zo_ok_kid hc'.1 ho h3 (mem_kids_sl hev hx))
    rw [ao_sl h4, sl_getD hev hx] at h
    exact h _ ⟨e1, e2, e3, os, cs, fl, hi, e4, this⟩
  · obtain ⟨o, ho, h1, h2, h3, h4, h5, h6, h7⟩ := r_obj hE hc' hk2.1 hi'
    rw [ao_sh h4] at hev hj
    have hH := h5.2.2.1
    refine sr_isReg_in hk ⟨fun z => absurd z (by decide), fun _ => sr_hasSlots_in hE hk2 h1 h5 hev ⟨fun z => absurd z (by decide), fun _ => ?_⟩⟩
    have bad : wqR_get_53 mY mZ mF mL mN a1 a2 a3 1 2 mR pq := ⟨fun z => absurd z (by decide), fun _ => h mR hc⟩
    unfold wqR_get_22
    refine ⟨fun z => absurd z (by decide), fun _ => ⟨fun z => bad, fun z => sr_sizeOf hE hk2 h1 h5 ⟨fun y => absurd y (ix_out (by omega) hj z).1, fun _ => bad⟩⟩⟩
  · have hq := h mR hc
    have bad : wqR_get_19 mY mZ mF mL mN a1 a2 a3 mcd mR pq := by
      unfold wqR_get_19 wqR_get_22
      exact ⟨fun _ => ⟨fun z => absurd z (by decide), fun _ => hq⟩, fun z => absurd rfl z⟩
    by_cases q : ∃ k, gReg a1 k
    · obtain ⟨k, hk⟩ := id q
      exact sr_isReg_in hk ⟨fun z => absurd z (by decide), fun _ => sr_hasSlots_out hE hc' (fun z => hn ⟨q, z⟩) ⟨fun _ => bad, fun z => absurd rfl z⟩⟩
    · exact sr_isReg_out q ⟨fun _ => bad, fun z => absurd rfl z⟩
/-- a cell of an object is written -/
theorem r_cell {pre po : List Ob_} {o : Ob_} {j y : Nat} {v : Int32} (hc : r_core nW nE (pre ++ o :: po) cs fl hi G mR mI mC mY mZ mF mL mN mfr) (hy : (cs (oE o))[j]? = some y) (hk : ∀ w ∈ zo_kids (oE o, oI o, oC o, oH o, (oB o).set j v), zo_ok (pre ++ o :: po) mR w) :
    r_core nW nE (pre ++ (oE o, oI o, oC o, oH o, (oB o).set j v) :: po) cs fl hi (gO_ G (oI o) (zo_ao bxR (pre ++ o :: po) (oE o, oI o, oC o, oH o, (oB o).set j v))) mR mI mC mY mZ mF (upd mL y v) mN mfr := by
  have ho : o ∈ pre ++ o :: po := by simp
  have hm := hc.2.2.1
  refine r_mod hc rfl rfl ?_ hk ?_ ?_
  · show ((oB o).set j v).length = _
    rw [List.length_set]
    exact hc.1.2.2.2.2.2 o ho
  · obtain ⟨q1, q2, q3, q4, q5, q6, q7, q8, q9⟩ := hm.1 o ho
    refine ⟨q1, q2, q3, q4, q5, q6, q7, q8, ?_⟩
    show (cs (oE o)).map (upd mL y v) = (oB o).set j v
    rw [map_upd_in _ _ _ (zc_nd hm.2.2.2 ho) hy, q9]
  · intro x hx hne
    obtain ⟨q1, q2, q3, q4, q5, q6, q7, q8, q9⟩ := hm.1 x hx
    refine ⟨q1, q2, q3, q4, q5, q6, q7, q8, ?_⟩
    rw [map_upd_out (fun z => hne (zc_one hm.2.2.2 hc.1.1 hx ho z (List.mem_of_getElem? hy))), q9]
theorem rR_put {pq : Int32 → (Nat → Int32) → Prop} (hE : nE ≤ 8192) (hW : nW ≤ 65536) (hc : r_rep nW nE G mwd men mR mI mC mY mZ mF mmd mhi mL mN mfr) (hA : A_put G a1 a2 a3 c G')
    (h : ∀ mL', r_rep nW nE G' mwd men mR mI mC mY mZ mF mmd mhi mL' mN mfr → pq c mL') : wqR_put mcd mR mY mZ mF mL mN a1 a2 a3 pq := by
  unfold wqR_put
  obtain ⟨e1, e2, e3, os, cs, fl, hi, e4, hc'⟩ := id hc
  rcases hA with ⟨k, i, j, hk, ⟨⟨k2, hk2, hi'⟩, hev⟩, hj, rfl, rfl⟩ | ⟨k, i, hk, ⟨⟨k2, hk2, hi'⟩, hev⟩, hj, rfl, rfl⟩ | ⟨hn, rfl, rfl⟩
  · obtain ⟨o, ho, h1, h2, h3, h4, h5, h6, h7⟩ := r_obj hE hc' hk2.1 hi'
    rw [ao_sh h4] at hev hj
    have hH := h5.2.2.1
    obtain ⟨j1, j2, j3⟩ := ix_nlt (by omega) hj
    refine sr_hasSlots_in hE hk2 h1 h5 hev ⟨fun z => absurd z (by decide), fun _ => sr_isReg_in hk ⟨fun z => absurd z (by decide), fun _ => ?_⟩⟩
    unfold wqR_put_22
    refine ⟨fun z => absurd z (by decide), fun _ => ⟨fun z => absurd z j1, fun _ => sr_sizeOf hE hk2 h1 h5 ⟨fun _ => ?_, fun z => absurd j2 z⟩⟩⟩
    unfold wqR_put_53
    refine ⟨fun _ => ⟨gReg_in hk2, ?_⟩, fun z => absurd rfl z⟩
    rw [gReg_cl hk2, h1, gReg_cl hk]
    obtain ⟨x, hx⟩ := ix_some hev h6 hj.1
    obtain ⟨y, hy, hyx⟩ := cs_some h5 hx
    obtain ⟨hj1, rfl⟩ := hj
    have hyl := r_clt hc'.2.2.1.2.2.2 ho (List.mem_of_getElem? hy)
    refine sr_placeOf h7 (sr_cellAt hE hW hc'.2.2.1 ho (by omega) hy ?_)
    rw [nI_clamp (by omega)]
    refine ⟨gReg_in hk, vp_in_nI (by omega) (by omega), ?_⟩
    obtain ⟨pre, po, rfl⟩ := zo_split ho
    have hsl : zo_slots o = oB o := sl_of hev
    have hsl' : zo_slots (oE o, oI o, oC o, oH o, (oB o).set j (mR k)) = (oB o).set j (mR k) := sl_of (o := (oE o, oI o, oC o, oH o, (oB o).set j (mR k))) hev
    have hm := r_cell (v := mR k) hc' hy ?_
    · have hao : zo_ao bxR (pre ++ o :: po) (oE o, oI o, oC o, oH o, (oB o).set j (mR k)) = ((G.2.1 i).1, (G.2.1 i).2.1, (G.2.1 i).2.2.1.set j (G.1 k), (G.2.1 i).2.2.2) := by
        rw [ao_cl h4, ao_sh h4, ao_sl h4, ao_by h4, if_neg (by omega), ← hc'.2.1.1 k hk.1, ← map_set_, hsl]
        unfold zo_ao
        rw [hsl', if_neg (by show ¬ oH o % 2 = 1; omega)]
      rw [hao, h2] at hm
      exact h _ ⟨e1, e2, e3, _, cs, fl, hi, e4, hm⟩
    · intro w hw
      unfold zo_kids at hw
      rw [hsl'] at hw
      rcases List.mem_cons.mp hw with q | q
      · rw [q]
        exact zo_ok_kid hc'.1 ho h3 List.mem_cons_self
      · rcases List.mem_or_eq_of_mem_set q with q | q
        · refine zo_ok_kid hc'.1 ho h3 (List.mem_cons_of_mem _ ?_)
          rw [hsl]; exact q
        · rw [q]
          exact zo_ok_reg hc'.1 hk.1
  · obtain ⟨o, ho, h1, h2, h3, h4, h5, h6, h7⟩ := r_obj hE hc' hk2.1 hi'
    rw [ao_sh h4] at hev hj
    have hH := h5.2.2.1
    refine sr_hasSlots_in hE hk2 h1 h5 hev ⟨fun z => absurd z (by decide), fun _ => sr_isReg_in hk ⟨fun z => absurd z (by decide), fun _ => ?_⟩⟩
    have bad : wqR_put_53 mR mY mZ mF mN a1 a2 a3 1 2 mL pq := ⟨fun z => absurd z (by decide), fun _ => h mL hc⟩
    unfold wqR_put_22
    refine ⟨fun z => absurd z (by decide), fun _ => ⟨fun z => bad, fun z => sr_sizeOf hE hk2 h1 h5 ⟨fun y => absurd y (ix_out (by omega) hj z).1, fun _ => bad⟩⟩⟩
  · have hq := h mL hc
    have bad : wqR_put_19 mR mY mZ mF mN a1 a2 a3 mcd mL pq := by
      unfold wqR_put_19 wqR_put_22
      exact ⟨fun _ => ⟨fun z => absurd z (by decide), fun _ => hq⟩, fun z => absurd rfl z⟩
    by_cases q : ∃ i, gSl G' a1 i
    · obtain ⟨i, ⟨k2, hk2, hi'⟩, hev⟩ := id q
      obtain ⟨o, ho, h1, h2, h3, h4, h5, h6, h7⟩ := r_obj hE hc' hk2.1 hi'
      rw [ao_sh h4] at hev
      exact sr_hasSlots_in hE hk2 h1 h5 hev ⟨fun z => absurd z (by decide), fun _ => sr_isReg_out (fun z => hn ⟨z, q⟩) ⟨fun _ => bad, fun z => absurd rfl z⟩⟩
    · exact sr_hasSlots_out hE hc' q ⟨fun _ => bad, fun z => absurd rfl z⟩
theorem rR_classOf {pq : Int32 → (Nat → Int32) → Prop} (hE : nE ≤ 8192) (hc : r_rep nW nE G mwd men mR mI mC mY mZ mF mmd mhi mL mN mfr) (hA : A_classOf G a1 a2 c G')
    (h : ∀ mR', r_rep nW nE G' mwd men mR' mI mC mY mZ mF mmd mhi mL mN mfr → pq c mR') : wqR_classOf mcd mR mC a1 a2 pq := by
  unfold wqR_classOf wqR_classOf_24
  obtain ⟨e1, e2, e3, os, cs, fl, hi, e4, hc'⟩ := id hc
  rcases hA with ⟨k, i, hk, ⟨k2, hk2, hi'⟩, rfl, rfl⟩ | ⟨hn, rfl, rfl⟩
  · obtain ⟨o, ho, h1, h2, h3, h4, h5, h6, h7⟩ := r_obj hE hc' hk2.1 hi'
    refine sr_isReg_in hk ⟨fun z => absurd z (by decide), fun _ => sr_has_in hk2 h1 h7 ⟨fun z => absurd z (by decide), fun _ => ⟨fun _ => ⟨gReg_in hk2, ?_⟩, fun z => absurd rfl z⟩⟩⟩
    rw [gReg_cl hk2, h1, gReg_cl hk]
    refine sr_placeOf h7 ?_
    rw [nI_clamp (by omega), h5.2.2.2.2.1]
    refine ⟨vp_in_nI h7 (by omega), gReg_in hk, ?_⟩
    have := r_setReg (k := k) hc' (zo_ok_kid hc'.1 ho h3 List.mem_cons_self)
    rw [ao_cl h4] at h
    exact h _ ⟨e1, e2, e3, os, cs, fl, hi, e4, this⟩
  · have hq := h mR hc
    by_cases q : ∃ k, gReg a1 k
    · obtain ⟨k, hk⟩ := id q
      exact sr_isReg_in hk ⟨fun z => absurd z (by decide), fun _ => sr_has_out hc'.1 hc'.2.1 (fun z => hn ⟨q, z⟩) ⟨fun _ => ⟨fun z => absurd z (by decide), fun _ => hq⟩, fun z => absurd rfl z⟩⟩
    · exact sr_isReg_out q ⟨fun _ => ⟨fun z => absurd z (by decide), fun _ => hq⟩, fun z => absurd rfl z⟩
theorem rR_setClass {pq : Int32 → (Nat → Int32) → Prop} (hE : nE ≤ 8192) (hc : r_rep nW nE G mwd men mR mI mC mY mZ mF mmd mhi mL mN mfr) (hA : A_setClass G a1 a2 c G')
    (h : ∀ mC', r_rep nW nE G' mwd men mR mI mC' mY mZ mF mmd mhi mL mN mfr → pq c mC') : wqR_setClass mcd mR mC a1 a2 pq := by
  unfold wqR_setClass wqR_setClass_24
  obtain ⟨e1, e2, e3, os, cs, fl, hi, e4, hc'⟩ := id hc
  rcases hA with ⟨k, i, hk, ⟨k2, hk2, hi'⟩, rfl, rfl⟩ | ⟨hn, rfl, rfl⟩
  · obtain ⟨o, ho, h1, h2, h3, h4, h5, h6, h7⟩ := r_obj hE hc' hk2.1 hi'
    refine sr_has_in hk2 h1 h7 ⟨fun z => absurd z (by decide), fun _ => sr_isReg_in hk ⟨fun z => absurd z (by decide), fun _ => ⟨fun _ => ⟨gReg_in hk2, ?_⟩, fun z => absurd rfl z⟩⟩⟩
    rw [gReg_cl hk2, h1, gReg_cl hk]
    refine sr_placeOf h7 ?_
    rw [nI_clamp (by omega)]
    refine ⟨gReg_in hk, vp_in_nI h7 (by omega), ?_⟩
    obtain ⟨pre, po, rfl⟩ := zo_split ho
    have hm := r_mod (o' := (oE o, oI o, mR k, oH o, oB o)) (mC' := upd mC (oE o) (mR k)) (mL' := mL) hc' rfl rfl h6 ?_ ?_ ?_
    · have hao : zo_ao bxR (pre ++ o :: po) (oE o, oI o, mR k, oH o, oB o) = (G.1 k, (G.2.1 i).2) := by
        rw [← h4, ← hc'.2.1.1 k hk.1]
        rfl
      rw [hao, h2] at hm
      exact h _ ⟨e1, e2, e3, _, cs, fl, hi, e4, hm⟩
    · intro v hv
      rcases List.mem_cons.mp hv with q | q
      · rw [q]
        exact zo_ok_reg hc'.1 hk.1
      · exact zo_ok_kid hc'.1 ho h3 (List.mem_cons_of_mem _ q)
    · obtain ⟨q1, q2, q3, q4, q5, q6, q7, q8, q9⟩ := h5
      exact ⟨q1, q2, q3, q4, pk_us, q6, q7, q8, q9⟩
    · intro x hx hne
      obtain ⟨q1, q2, q3, q4, q5, q6, q7, q8, q9⟩ := hc'.2.2.1.1 x hx
      refine ⟨q1, q2, q3, q4, ?_, q6, q7, q8, q9⟩
      rw [pk_un (fun e => hne (zo_one hc'.1.1 hx ho e)), q5]
  · have hq := h mC hc
    by_cases q : ∃ i, gHas G' a1 i
    · obtain ⟨i, k2, hk2, hi'⟩ := id q
      obtain ⟨o, ho, h1, h2, h3, h4, h5, h6, h7⟩ := r_obj hE hc' hk2.1 hi'
      exact sr_has_in hk2 h1 h7 ⟨fun z => absurd z (by decide), fun _ => sr_isReg_out (fun z => hn ⟨z, q⟩) ⟨fun _ => ⟨fun z => absurd z (by decide), fun _ => hq⟩, fun z => absurd rfl z⟩⟩
    · exact sr_has_out hc'.1 hc'.2.1 q ⟨fun _ => ⟨fun z => absurd z (by decide), fun _ => hq⟩, fun z => absurd rfl z⟩
theorem rR_kind {pq : Int32 → Int32 → Prop} (hE : nE ≤ 8192) (hc : r_rep nW nE G mwd men mR mI mC mY mZ mF mmd mhi mL mN mfr) (hA : A_kind G a c o_ G')
    (h : ∀ b, (c = 0 → b = o_) → r_rep nW nE G' mwd men mR mI mC mY mZ mF mmd mhi mL mN mfr → pq b c) : wqR_kind mcd mR mY a pq := by
  unfold wqR_kind wqR_kind_16 wqR_kind_32
  obtain ⟨e1, e2, e3, os, cs, fl, hi, e4, hc'⟩ := id hc
  rcases hA with ⟨k, hk, rfl, rfl, rfl⟩ | ⟨hn, rfl, rfl⟩
  · refine sr_isReg_in hk ⟨fun z => absurd z (by decide), fun _ => ⟨fun z => absurd z (by decide), fun _ => ⟨gReg_in hk, ?_⟩⟩⟩
    rw [gReg_cl hk]
    cases hg : G'.1 k with
    | inl v =>
      rw [hg] at h
      obtain ⟨h1, h2⟩ := zq_val hc'.1 hc'.2.1 hk.1 hg
      rw [h1]
      refine ⟨fun q => h _ (fun _ => ?_) hc, fun q => ⟨gReg_in hk, sr_isObject_n h2 ⟨fun _ => h _ (fun _ => ?_) hc, fun z => absurd rfl z⟩⟩⟩
      · show (0 : Int32) = if v = 0 then 0 else 1
        rw [if_pos q]
      · show (1 : Int32) = if v = 0 then 0 else 1
        rw [if_neg q]
    | inr i =>
      rw [hg] at h
      obtain ⟨o, ho, h1, h2, h3, h4, h5, h6, h7⟩ := r_obj hE hc' hk.1 hg
      refine ⟨fun q => absurd (h1.symm.trans q) (ov_ne0 h7), fun _ => ⟨gReg_in hk, ?_⟩⟩
      rw [h1]
      refine sr_isObject_o h7 ⟨fun z => absurd z (by decide), fun _ => sr_hasBytes_in hE hk h1 h5 ?_⟩
      have hs : gKind G' (.inr i) = if oH o % 2 = 1 then 3 else 2 := by
        show (if (G'.2.1 i).2.1 % 2 = 1 then (3 : Int32) else 2) = _
        rw [ao_sh h4]
      rw [hs] at h
      rcases (show oH o % 2 = 1 ∨ oH o % 2 = 0 by omega) with q | q
      · rw [q] at h ⊢
        exact ⟨fun z => absurd z (by decide), fun _ => h _ (fun _ => rfl) hc⟩
      · rw [q] at h ⊢
        exact ⟨fun _ => h _ (fun _ => rfl) hc, fun z => absurd rfl z⟩
  · exact sr_isReg_out hn ⟨fun _ => ⟨fun _ => h _ (fun z => absurd z (by decide)) hc, fun z => absurd (by decide) z⟩, fun z => absurd rfl z⟩
theorem rR_value {pq : Int32 → Int32 → Prop} (hE : nE ≤ 8192) (hc : r_rep nW nE G mwd men mR mI mC mY mZ mF mmd mhi mL mN mfr) (hA : A_value G a c o_ G')
    (h : ∀ b, (c = 0 → b = o_) → r_rep nW nE G' mwd men mR mI mC mY mZ mF mmd mhi mL mN mfr → pq b c) : wqR_value mcd mR mI a pq := by
  unfold wqR_value wqR_value_16 wqR_value_32
  obtain ⟨e1, e2, e3, os, cs, fl, hi, e4, hc'⟩ := id hc
  rcases hA with ⟨k, hk, rfl, rfl, rfl⟩ | ⟨hn, rfl, rfl⟩
  · refine sr_isReg_in hk ⟨fun z => absurd z (by decide), fun _ => ⟨fun z => absurd z (by decide), fun _ => ⟨gReg_in hk, ?_⟩⟩⟩
    rw [gReg_cl hk]
    cases hg : G'.1 k with
    | inl v =>
      rw [hg] at h
      obtain ⟨h1, h2⟩ := zq_val hc'.1 hc'.2.1 hk.1 hg
      rw [h1]
      refine ⟨fun q => h _ (fun _ => ?_) hc, fun q => ⟨gReg_in hk, sr_isObject_n h2 ⟨fun _ => ⟨gReg_in hk, h _ (fun _ => ?_) hc⟩, fun z => absurd rfl z⟩⟩⟩
      · show (0 : Int32) = if v = 0 then 0 else v >>> ((1 : Int32) &&& 31)
        rw [if_pos q]
      · show _ = if v = 0 then (0 : Int32) else v >>> ((1 : Int32) &&& 31)
        rw [if_neg q]
    | inr i =>
      rw [hg] at h
      obtain ⟨o, ho, h1, h2, h3, h4, h5, h6, h7⟩ := r_obj hE hc' hk.1 hg
      refine ⟨fun q => absurd (h1.symm.trans q) (ov_ne0 h7), fun _ => ⟨gReg_in hk, ?_⟩⟩
      rw [h1]
      refine sr_isObject_o h7 ⟨fun z => absurd z (by decide), fun _ => ⟨gReg_in hk, sr_placeOf h7 ?_⟩⟩
      rw [nI_clamp (by omega), h5.2.2.2.1, h2]
      exact ⟨vp_in_nI h7 (by omega), h _ (fun _ => rfl) hc⟩
  · exact sr_isReg_out hn ⟨fun _ => ⟨fun _ => h _ (fun z => absurd z (by decide)) hc, fun z => absurd (by decide) z⟩, fun z => absurd rfl z⟩
theorem rR_size {pq : Int32 → Int32 → Prop} (hE : nE ≤ 8192) (hc : r_rep nW nE G mwd men mR mI mC mY mZ mF mmd mhi mL mN mfr) (hA : A_size G a c o_ G')
    (h : ∀ b, (c = 0 → b = o_) → r_rep nW nE G' mwd men mR mI mC mY mZ mF mmd mhi mL mN mfr → pq b c) : wqR_size mcd mR mZ a pq := by
  unfold wqR_size wqR_size_16
  obtain ⟨e1, e2, e3, os, cs, fl, hi, e4, hc'⟩ := id hc
  rcases hA with ⟨k, hk, rfl, rfl, rfl⟩ | ⟨hn, rfl, rfl⟩
  · refine sr_isReg_in hk ⟨fun z => absurd z (by decide), fun _ => ?_⟩
    cases hg : G'.1 k with
    | inl v =>
      rw [hg] at h
      refine sr_has_out hc'.1 hc'.2.1 ?_ ⟨fun _ => h _ (fun _ => rfl) hc, fun z => absurd rfl z⟩
      rintro ⟨i, k', hk', hi'⟩
      rw [gReg_u hk' hk, hg] at hi'
      cases hi'
    | inr i =>
      rw [hg] at h
      obtain ⟨o, ho, h1, h2, h3, h4, h5, h6, h7⟩ := r_obj hE hc' hk.1 hg
      refine sr_has_in hk h1 h7 ⟨fun z => absurd z (by decide), fun _ => sr_sizeOf hE hk h1 h5 (h _ (fun _ => ?_) hc)⟩
      show _ = nI ((G'.2.1 i).2.1 / 2)
      rw [ao_sh h4]
  · refine sr_isReg_out hn ⟨fun _ => sr_has_out hc'.1 hc'.2.1 ?_ ⟨fun _ => h _ (fun z => absurd z (by decide)) hc, fun z => absurd rfl z⟩, fun z => absurd rfl z⟩
    rintro ⟨i, k', hk', hi'⟩
    exact hn ⟨k', hk'⟩
end RB

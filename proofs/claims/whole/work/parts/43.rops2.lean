/-! the reference's walk, bytes, sum, become -/
section RC
variable {nW nE L hi : Nat} {os : List Ob_} {cs : Nat → List Nat} {fl : List Nat} {G G' : G_} {mR mI mC mY mZ mF mL mN : Nat → Int32} {mfr mcd mwd men mmd mhi : Int32} {a b a1 a2 a3 c o_ : Int32} {e8 : Int64} {post : Int32 → Prop}
theorem gR_gR (G : G_) (k : Nat) (x y : AV_) : gR_ (gR_ G k x) k y = gR_ G k y := by
  unfold gR_
  show (g_set (g_set G.1 k x) k y, G.2) = _
  have : g_set (g_set G.1 k x) k y = g_set G.1 k y := by
    funext j
    unfold g_set
    split <;> rfl
  rw [this]
theorem gR_self (G : G_) (k : Nat) : gR_ G k (G.1 k) = G := by
  have : g_set G.1 k (G.1 k) = G.1 := by
    funext j
    unfold g_set
    split
    · rename_i q; rw [q]
    · rfl
  unfold gR_
  rw [this]
theorem sr_walk_39 {mcd0 : Int32} {k : Nat} {pq : Int32 → Int32 → (Nat → Int32) → Prop} {kx : Int32 → (Nat → Int32) → Prop} (hE : nE ≤ 8192) (hW : nW ≤ 65536) (hk : gReg a1 k) :
    ∀ (m s : Nat) (u : AV_) (d : Nat) (w : AV_) (mR : Nat → Int32), s + m ≤ 10000 → r_core nW nE os cs fl hi (gR_ G k u) mR mI mC mY mZ mF mL mN mfr → gWalk G a2 m u d w → (∀ mR', r_core nW nE os cs fl hi (gR_ G k w) mR' mI mC mY mZ mF mL mN mfr → kx (nI (s + d)) mR') →
      wqR_walk_39 mY mZ mF mL mN a1 a2 (nI (s + m)) mcd0 pq kx (m + 1) (nI s) mR := by
  intro m
  induction m with
  | zero =>
    intro s u d w mR hs hc hg hx
    obtain ⟨rfl, rfl⟩ := hg
    unfold wqR_walk_39
    exact ⟨fun _ => hx _ hc, fun q => absurd (nI_le (by omega) (by omega)) q⟩
  | succ m ih =>
    intro s u d w mR hs hc hg hx
    unfold wqR_walk_39
    refine ⟨fun q => absurd q (nI_ge (by omega) (by omega)), fun _ => ?_⟩
    have hgk : (gR_ G k u).1 k = u := g_set_s
    have stop : (¬ ∃ u', gStep G a2 u u') → kx (nI s) mR := by
      intro hn
      rcases hg with ⟨u', d', hu, -, -⟩ | ⟨-, rfl, rfl⟩
      · exact absurd ⟨u', hu⟩ hn
      · exact hx _ hc
    by_cases cs1 : ∃ i, gSl (gR_ G k u) a1 i
    · obtain ⟨i, ⟨k', hk', hi'⟩, hev⟩ := cs1
      have : k' = k := gReg_u hk' hk
      subst this
      obtain ⟨o, ho, h1, h2, h3, h4, h5, h6, h7⟩ := r_obj hE hc hk.1 hi'
      rw [hgk] at hi'
      subst hi'
      have hev2 : (G.2.1 i).2.1 % 2 = 0 := hev
      have h4' : zo_ao bxR os o = G.2.1 i := h4
      rw [ao_sh h4] at hev
      have hH := h5.2.2.1
      refine sr_hasSlots_in hE hk h1 h5 hev ⟨fun z => absurd z (by decide), fun _ => ?_⟩
      by_cases cix : ∃ j, gIx a2 (oH o / 2) j
      · obtain ⟨j, hj⟩ := cix
        obtain ⟨j1, j2, j3⟩ := ix_nlt (by omega) hj
        refine ⟨fun z => absurd z j1, fun _ => sr_sizeOf hE hk h1 h5 ⟨fun z => absurd z j3, fun _ => ⟨gReg_in hk, ?_⟩⟩⟩
        rw [gReg_cl hk, h1]
        obtain ⟨x, hx'⟩ := ix_some hev h6 hj.1
        obtain ⟨y, hy, hyx⟩ := cs_some h5 hx'
        obtain ⟨hj1, hj2⟩ := id hj
        rw [hj2]
        have hyl := r_clt hc.2.2.1.2.2.2 ho (List.mem_of_getElem? hy)
        refine sr_placeOf h7 (sr_cellAt hE hW hc.2.2.1 ho (by omega) hy ?_)
        rw [nI_clamp (by omega), hyx, zi_1, show s + (m + 1) = s + 1 + m by omega, ← hj2]
        refine ⟨vp_in_nI (by omega) (by omega), gReg_in hk, ?_⟩
        have hc2 := r_setReg (k := k') hc (zo_ok_kid hc.1 ho h3 (mem_kids_sl hev hx'))
        rw [gR_gR] at hc2
        rcases hg with ⟨u', d', hu, rfl, hg'⟩ | ⟨hn, -, -⟩
        · have hu2 : u' = zv_ os x := by
            obtain ⟨i', j', q1, q2, q3, q5⟩ := hu
            cases q1
            rw [ao_sh h4'] at q3
            have : j' = j := by
              obtain ⟨q6, q7⟩ := q3
              rw [hj2] at q7
              exact ((nI_eq (by omega) (by omega)).mp q7).symm
            subst this
            rw [q5, ao_sl h4', sl_getD hev hx']
          rw [hu2] at hg'
          refine ih (s + 1) (zv_ os x) d' w _ (by omega) hc2 hg' ?_
          intro mR' hc3
          rw [show s + 1 + d' = s + (d' + 1) by omega]
          exact hx _ hc3
        · exact absurd ⟨_, i, j, rfl, hev2, by rw [ao_sh h4']; exact hj, rfl⟩ hn
      · have hns : kx (nI s) mR := by
          refine stop ?_
          rintro ⟨u', i', j', q1, q2, q3, -⟩
          cases q1
          rw [ao_sh h4'] at q3
          exact cix ⟨j', q3⟩
        exact ⟨fun _ => hns, fun z => sr_sizeOf hE hk h1 h5 ⟨fun _ => hns, fun y => absurd (ix_out (by omega) cix z).2 y⟩⟩
    · refine sr_hasSlots_out hE hc cs1 ⟨fun _ => stop ?_, fun z => absurd rfl z⟩
      rintro ⟨u', i', j', q1, q2, q3, -⟩
      subst q1
      exact cs1 ⟨i', ⟨k, hk, hgk⟩, q2⟩
theorem rR_walk {pq : Int32 → Int32 → (Nat → Int32) → Prop} (hE : nE ≤ 8192) (hW : nW ≤ 65536) (hc : r_rep nW nE G mwd men mR mI mC mY mZ mF mmd mhi mL mN mfr) (hA : A_walk G a1 a2 a3 c o_ G')
    (h : ∀ b mR', (c = 0 → b = o_) → r_rep nW nE G' mwd men mR' mI mC mY mZ mF mmd mhi mL mN mfr → pq b c mR') : wqR_walk mcd mR mY mZ mF mL mN a1 a2 a3 pq := by
  unfold wqR_walk
  rcases hA with ⟨k, n, d, w, hk, hn, rfl, hg, rfl, rfl, rfl⟩ | ⟨hn, rfl, rfl⟩
  · obtain ⟨e1, e2, e3, os, cs, fl, hi, e4, hc⟩ := hc
    refine sr_isReg_in hk ⟨fun z => absurd z (by decide), fun _ => ⟨fun z => absurd z (nI_pos (by omega)), fun _ => ⟨fun z => absurd z (nI_nlt (a := 10000) hn (by omega)), fun _ => ?_⟩⟩⟩
    unfold wqR_walk_27
    refine ⟨fun _ => ⟨n + 1, ?_⟩, fun z => absurd (by decide) z⟩
    rw [← gR_self G k] at hc
    have := sr_walk_39 (mcd0 := 0) (pq := pq) (kx := fun z4_39 mRe_39 => pq z4_39 0 mRe_39) hE hW hk n 0 (G.1 k) d w mR (by omega) hc hg (fun mR' hc' => by rw [Nat.zero_add]; exact h _ _ (fun _ => rfl) ⟨e1, e2, e3, os, cs, fl, hi, e4, hc'⟩)
    rw [Nat.zero_add] at this
    exact this
  · have hq := h 0 mR (fun z => absurd z (by decide)) hc
    have bad : wqR_walk_27 mY mZ mF mL mN a1 a2 a3 1 mR pq := ⟨fun z => absurd z (by decide), fun _ => hq⟩
    by_cases q : ∃ k, gReg a1 k
    · obtain ⟨k, hk⟩ := id q
      refine sr_isReg_in hk ⟨fun z => absurd z (by decide), fun _ => ⟨fun _ => bad, fun z1 => ⟨fun _ => bad, fun z2 => ?_⟩⟩⟩
      rw [Int32.lt_iff_toInt_lt] at z1 z2
      have e : (0 : Int32).toInt = 0 := rfl
      have e' : (10000 : Int32).toInt = 10000 := rfl
      exact absurd ⟨q, (nI_ex (a := a3) (N := 10000) (by omega)).mpr ⟨by omega, by omega⟩⟩ hn
    · exact sr_isReg_out q ⟨fun _ => bad, fun z => absurd rfl z⟩
/-! bytes -/
theorem shR_i {i : Nat} (hi : i < 2 ^ 30) : (24 : Int32) - ((8 : Int32) * (nI i - nI i / (4 : Int32) * (4 : Int32))) = nI (24 - 8 * (i % 4)) := by
  rw [show (4 : Int32) = nI 4 from rfl, pk_rem (by omega) (by omega) (by omega), show (8 : Int32) = nI 8 from rfl, pk_mul, show (24 : Int32) = nI 24 from rfl, pk_sub (by omega)]
theorem shR_u (i : Nat) : (((nI (24 - 8 * (i % 4))).toUInt32 &&& Int32.toUInt32 31).toBitVec % 32).toNat = 24 - 8 * (i % 4) := by
  rcases (show i % 4 = 0 ∨ i % 4 = 1 ∨ i % 4 = 2 ∨ i % 4 = 3 by omega) with q | q | q | q <;> rw [q] <;> decide
theorem shR_s (i : Nat) : ((nI (24 - 8 * (i % 4)) &&& (31 : Int32)).toBitVec.smod 32).toNat = 24 - 8 * (i % 4) := by
  rcases (show i % 4 = 0 ∨ i % 4 = 1 ∨ i % 4 = 2 ∨ i % 4 = 3 by omega) with q | q | q | q <;> rw [q] <;> decide
theorem shR_ok (a b : Nat) (ha : a < 4) (hb : b < 4) : (24 - 8 * a = 24 - 8 * b ↔ a = b) ∧ 24 - 8 * a ≤ 24 ∧ (24 - 8 * a = 24 - 8 * b ∨ 24 - 8 * a + 8 ≤ 24 - 8 * b ∨ 24 - 8 * b + 8 ≤ 24 - 8 * a) := by omega
theorem by_atR {o : Ob_} {i : Nat} (ho : r_ob nE L cs mI mC mY mZ mF mL mN o) (hh : oH o % 2 = 1) (hl : (oB o).length = bW_ (oH o)) (hi : i < oH o / 2) : ∃ y, (cs (oE o))[i / 4]? = some y ∧ mL y = (oB o).getD (i / 4) 0 := by
  rw [bW_odd hh] at hl
  have hlt : i / 4 < (oB o).length := by omega
  obtain ⟨y, h1, h2⟩ := cs_some ho (List.getElem?_eq_getElem hlt)
  refine ⟨y, h1, ?_⟩
  rw [h2, List.getD_eq_getElem?_getD, List.getElem?_eq_getElem hlt]
  rfl
theorem rR_byteAt {pq : Int32 → Int32 → Prop} (hE : nE ≤ 8192) (hW : nW ≤ 65536) (hc : r_rep nW nE G mwd men mR mI mC mY mZ mF mmd mhi mL mN mfr) (hA : A_byteAt G a1 a2 c o_ G')
    (h : ∀ b, (c = 0 → b = o_) → r_rep nW nE G' mwd men mR mI mC mY mZ mF mmd mhi mL mN mfr → pq b c) : wqR_byteAt mcd mR mY mZ mF mL mN a1 a2 pq := by
  unfold wqR_byteAt
  obtain ⟨e1, e2, e3, os, cs, fl, hi, e4, hc'⟩ := id hc
  rcases hA with ⟨i, j, ⟨⟨k, hk, hi'⟩, hod⟩, hj, rfl, rfl, rfl⟩ | ⟨i, ⟨⟨k, hk, hi'⟩, hod⟩, hj, rfl, rfl⟩ | ⟨hn, rfl, rfl⟩
  · obtain ⟨o, ho, h1, h2, h3, h4, h5, h6, h7⟩ := r_obj hE hc' hk.1 hi'
    rw [ao_sh h4] at hod hj
    have hH := h5.2.2.1
    obtain ⟨j1, j2, j3⟩ := ix_nlt (by omega) hj
    refine sr_hasBytes_in hE hk h1 h5 ?_
    rw [hod]
    refine ⟨fun z => absurd z (by decide), fun _ => ⟨fun z => absurd z j1, fun _ => sr_sizeOf hE hk h1 h5 ⟨fun _ => ?_, fun z => absurd j2 z⟩⟩⟩
    unfold wqR_byteAt_34 wqR_byteOf
    refine ⟨fun _ => ⟨gReg_in hk, ?_⟩, fun z => absurd (by decide) z⟩
    rw [gReg_cl hk, h1]
    obtain ⟨hj1, rfl⟩ := hj
    obtain ⟨y, hy, hyx⟩ := by_atR h5 hod h6 hj1
    have hyl := r_clt hc'.2.2.1.2.2.2 ho (List.mem_of_getElem? hy)
    refine sr_placeOf h7 ?_
    rw [shR_i (by omega), show (4 : Int32) = nI 4 from rfl, pk_div (by omega) (by omega) (by omega)]
    refine sr_cellAt hE hW hc'.2.2.1 ho (by omega) hy ?_
    rw [nI_clamp (by omega), hyx, by_get _ _ _ (shR_u j)]
    refine ⟨vp_in_nI (by omega) (by omega), h _ (fun _ => ?_) hc⟩
    rw [ao_by h4, if_pos hod, List.getD_eq_getElem?_getD, List.getD_eq_getElem?_getD, List.getElem?_map, List.getElem?_range hj1]
    show _ = bxR (oB o) j
    unfold bxR
    rw [List.getD_eq_getElem?_getD]
  · obtain ⟨o, ho, h1, h2, h3, h4, h5, h6, h7⟩ := r_obj hE hc' hk.1 hi'
    rw [ao_sh h4] at hod hj
    have hH := h5.2.2.1
    have bad : wqR_byteAt_34 mR mY mZ mF mL mN a1 a2 2 pq := ⟨fun z => absurd z (by decide), fun _ => h _ (fun z => absurd z (by decide)) hc⟩
    refine sr_hasBytes_in hE hk h1 h5 ?_
    rw [hod]
    exact ⟨fun z => absurd z (by decide), fun _ => ⟨fun _ => bad, fun z => sr_sizeOf hE hk h1 h5 ⟨fun y => absurd y (ix_out (by omega) hj z).1, fun _ => bad⟩⟩⟩
  · exact sr_hasBytes_out hE hc' hn ⟨fun _ => ⟨fun z => absurd z (by decide), fun _ => h _ (fun z => absurd z (by decide)) hc⟩, fun z => absurd rfl z⟩
/-- one byte of an object is written -/
theorem r_byte {pre po : List Ob_} {o : Ob_} {i k x : Nat} {v : Int32} {pq : (Nat → Int32) → Prop} (hE : nE ≤ 8192) (hW : nW ≤ 65536) (hc : r_core nW nE (pre ++ o :: po) cs fl hi G mR mI mC mY mZ mF mL mN mfr) (hk : k < 32) (hR : mR k = ov_ (oE o)) (hi' : oI o = i) (hh : oH o % 2 = 1) (hx : x < oH o / 2) (hv : ∃ b, b < 256 ∧ v = nI b)
    (h : ∀ mL' o', oE o' = oE o → oI o' = oI o → oH o' = oH o → r_core nW nE (pre ++ o' :: po) cs fl hi (gO_ G i ((G.2.1 i).1, (G.2.1 i).2.1, (G.2.1 i).2.2.1, (G.2.1 i).2.2.2.set x v)) mR mI mC mY mZ mF mL' mN mfr → pq mL') :
    wqR_setByte mF mL mN (nI (oE o)) (nI x) v pq := by
  have ho : o ∈ pre ++ o :: po := by simp
  have hw := hc.1
  have hr : zo_reach (pre ++ o :: po) mR (oE o) := zo_reach_root hk (by rw [hR, zo_dec_ov (hw.2.1 o ho)])
  have h4 := hc.2.1.2 o ho hr
  rw [hi'] at h4
  have h5 := hc.2.2.1.1 o ho
  have h7 := hw.2.2.2.2.2 o ho
  have hH := h5.2.2.1
  obtain ⟨y, hy, hyx⟩ := by_atR h5 hh h7 hx
  have hyl := r_clt hc.2.2.1.2.2.2 ho (List.mem_of_getElem? hy)
  obtain ⟨b, hb256, rfl⟩ := hv
  unfold wqR_setByte
  rw [shR_i (by omega), show (4 : Int32) = nI 4 from rfl, pk_div (by omega) (by omega) (by omega)]
  refine sr_cellAt hE hW hc.2.2.1 ho (by omega) hy ?_
  rw [nI_clamp (by omega), hyx]
  refine ⟨vp_in_nI (by omega) (by omega), vp_in_nI (by omega) (by omega), ?_⟩
  have hm := r_cell (v := ((oB o).getD (x / 4) 0 &&& (((255 : Int32) <<< (nI (24 - 8 * (x % 4)) &&& (31 : Int32))) ^^^ (-1 : Int32))) ||| (nI b <<< (nI (24 - 8 * (x % 4)) &&& (31 : Int32)))) hc hy ?_
  · have hao : zo_ao bxR (pre ++ o :: po) (oE o, oI o, oC o, oH o, (oB o).set (x / 4) (((oB o).getD (x / 4) 0 &&& (((255 : Int32) <<< (nI (24 - 8 * (x % 4)) &&& (31 : Int32))) ^^^ (-1 : Int32))) ||| (nI b <<< (nI (24 - 8 * (x % 4)) &&& (31 : Int32))))) = ((G.2.1 i).1, (G.2.1 i).2.1, (G.2.1 i).2.2.1, (G.2.1 i).2.2.2.set x (nI b)) := by
      rw [ao_cl h4, ao_sh h4, ao_sl h4, ao_by h4, if_pos hh, sl_odd hh]
      unfold zo_ao
      rw [sl_odd (by show oH o % 2 = 1; exact hh), if_pos (by show oH o % 2 = 1; exact hh)]
      have hset := bx_set (bx := bxR) (sh := fun t => 24 - 8 * t) (l := oB o) (i := x) (n := oH o / 2) (b := b) (s := nI (24 - 8 * (x % 4)) &&& (31 : Int32)) (fun _ _ => rfl) (fun p q hp hq => shR_ok p q hp hq) hb256 (by rw [h7, bW_odd hh]) hx (shR_s x)
      show (zv_ _ (oC o), oH o, [].map _, (List.range (oH o / 2)).map (bxR ((oB o).set _ _))) = _
      rw [hset]
    rw [hao] at hm
    rw [hi'] at hm
    refine h _ _ ?_ ?_ ?_ hm
    · rfl
    · exact hi'.symm
    · rfl
  · intro w hw'
    unfold zo_kids at hw'
    rw [sl_odd (by show oH o % 2 = 1; exact hh)] at hw'
    have : w = oC o := by simpa using hw'
    rw [this]
    exact zo_ok_kid hw ho hr List.mem_cons_self
theorem rR_bytePut {pq : Int32 → (Nat → Int32) → Prop} (hE : nE ≤ 8192) (hW : nW ≤ 65536) (hc : r_rep nW nE G mwd men mR mI mC mY mZ mF mmd mhi mL mN mfr) (hA : A_bytePut G a1 a2 e8 c G')
    (h : ∀ mL', r_rep nW nE G' mwd men mR mI mC mY mZ mF mmd mhi mL' mN mfr → pq c mL') : wqR_bytePut mcd mR mY mZ mF mL mN a1 a2 e8 pq := by
  unfold wqR_bytePut
  obtain ⟨e1, e2, e3, os, cs, fl, hi, e4, hc'⟩ := id hc
  have skip : ∀ (z : Int32), ¬ z = 0 → pq z mL → wqR_bytePut_34 mR mY mZ mF mN a1 a2 e8 z mL pq := by
    intro z hz hp
    unfold wqR_bytePut_34
    refine ⟨1, ?_⟩
    unfold wqR_bytePut_37
    exact ⟨fun q => absurd q (by decide), fun _ => ⟨fun q => absurd q hz, fun _ => hp⟩⟩
  rcases hA with ⟨i, j, ⟨⟨k, hk, hi'⟩, hod⟩, hj, rfl, rfl⟩ | ⟨i, ⟨⟨k, hk, hi'⟩, hod⟩, hj, rfl, rfl⟩ | ⟨hn, rfl, rfl⟩
  · obtain ⟨o, ho, h1, h2, h3, h4, h5, h6, h7⟩ := r_obj hE hc' hk.1 hi'
    rw [ao_sh h4] at hod hj
    have hH := h5.2.2.1
    obtain ⟨j1, j2, j3⟩ := ix_nlt (by omega) hj
    refine sr_hasBytes_in hE hk h1 h5 ?_
    rw [hod]
    refine ⟨fun z => absurd z (by decide), fun _ => ⟨fun z => absurd z j1, fun _ => sr_sizeOf hE hk h1 h5 ⟨fun _ => ?_, fun z => absurd j2 z⟩⟩⟩
    obtain ⟨hj1, rfl⟩ := hj
    unfold wqR_bytePut_34
    refine ⟨min 8 (oH o / 2 - j) + 1, ?_⟩
    obtain ⟨pre, po, rfl⟩ := zo_split ho
    rw [ao_sh h4] at h
    have hmx : min 8 (oH o / 2 - j) ≤ oH o / 2 - j := Nat.min_le_right _ _
    have hmx8 : min 8 (oH o / 2 - j) ≤ 8 := Nat.min_le_left _ _
    have hmxe : min 8 (oH o / 2 - j) = 8 ∨ min 8 (oH o / 2 - j) = oH o / 2 - j := by omega
    have loop : ∀ (m t : Nat) (o2 : Ob_) (mL2 : Nat → Int32), t + m = min 8 (oH o / 2 - j) → oE o2 = oE o → oI o2 = oI o → oH o2 = oH o →
        r_core nW nE (pre ++ o2 :: po) cs fl hi (gO_ G i ((G.2.1 i).1, (G.2.1 i).2.1, (G.2.1 i).2.2.1, gPut e8 j t (G.2.1 i).2.2.2)) mR mI mC mY mZ mF mL2 mN mfr →
        wqR_bytePut_37 mR mY mZ mF mN a1 (nI j) e8 0 pq (fun z5_37 mLe_37 => pq 0 mLe_37) (m + 1) (nI t) mL2 := by
      intro m
      induction m with
      | zero =>
        intro t o2 mL2 ht q1 q2 q3 hc2
        have hte : t = min 8 (oH o / 2 - j) := by omega
        have fin : pq 0 mL2 := by
          rw [hte, ao_sh h4] at hc2
          exact h _ ⟨e1, e2, e3, _, cs, fl, hi, e4, hc2⟩
        have ho2 : o2 ∈ pre ++ o2 :: po := by simp
        unfold wqR_bytePut_37
        refine ⟨fun _ => fin, fun z => ⟨fun _ => sr_sizeOf hE hk (by rw [h1, q1]) (hc2.2.2.1.1 o2 ho2) ⟨fun _ => fin, fun y => ?_⟩, fun z => absurd rfl z⟩⟩
        rw [nI_add, q3, nI_leI (by omega) (by omega)] at y
        have z' : ¬ nI 8 ≤ nI t := z
        rw [nI_leI (by omega) (by omega)] at z'
        omega
      | succ m ih =>
        intro t o2 mL2 ht q1 q2 q3 hc2
        have ho2 : o2 ∈ pre ++ o2 :: po := by simp
        unfold wqR_bytePut_37
        refine ⟨fun z => absurd z (nI_ge (b := 8) (by omega) (by omega)), fun _ => ⟨fun _ => sr_sizeOf hE hk (by rw [h1, q1]) (hc2.2.2.1.1 o2 ho2) ⟨fun y => ?_, fun _ => ⟨gReg_in hk, ?_⟩⟩, fun z => absurd rfl z⟩⟩
        · rw [nI_add, q3, nI_leI (by omega) (by omega)] at y
          omega
        · rw [gReg_cl hk, h1]
          refine sr_placeOf h7 ?_
          rw [nI_add, zi_1, gB8_R e8 t (by omega), ← q1]
          refine r_byte hE hW hc2 hk.1 (by rw [q1]; exact h1) (i := i) (by rw [q2]; exact h2) (by rw [q3]; exact hod) (by rw [q3]; omega) (gB8_lt e8 t) ?_
          intro mL3 o3 p1 p2 p3 hc3
          have hs : (gO_ G i ((G.2.1 i).1, (G.2.1 i).2.1, (G.2.1 i).2.2.1, gPut e8 j t (G.2.1 i).2.2.2)).2.1 i = ((G.2.1 i).1, (G.2.1 i).2.1, (G.2.1 i).2.2.1, gPut e8 j t (G.2.1 i).2.2.2) := g_set_s
          rw [hs, gO_gO] at hc3
          exact ih (t + 1) o3 mL3 (by omega) (by rw [p1, q1]) (by rw [p2, q2]) (by rw [p3, q3]) hc3
    refine loop (min 8 (oH o / 2 - j)) 0 o mL (by omega) rfl rfl rfl ?_
    show r_core nW nE (pre ++ o :: po) cs fl hi (gO_ G i (G.2.1 i)) mR mI mC mY mZ mF mL mN mfr
    rw [gO_self]
    exact hc'
  · obtain ⟨o, ho, h1, h2, h3, h4, h5, h6, h7⟩ := r_obj hE hc' hk.1 hi'
    rw [ao_sh h4] at hod hj
    have hH := h5.2.2.1
    have bad := skip 2 (by decide) (h mL hc)
    refine sr_hasBytes_in hE hk h1 h5 ?_
    rw [hod]
    exact ⟨fun z => absurd z (by decide), fun _ => ⟨fun _ => bad, fun z => sr_sizeOf hE hk h1 h5 ⟨fun y => absurd y (ix_out (by omega) hj z).1, fun _ => bad⟩⟩⟩
  · exact sr_hasBytes_out hE hc' hn ⟨fun _ => skip 1 (by decide) (h mL hc), fun z => absurd rfl z⟩
/-! sum -/
def sB_ (l : List Int32) (s : Nat) : Int32 := ((List.range s).map (bxR l)).foldl (fun t b => (31 : Int32) * t + b) 7
theorem sB_s (l : List Int32) (s : Nat) : sB_ l (s + 1) = (31 : Int32) * sB_ l s + bxR l s := by
  unfold sB_
  rw [List.range_succ, List.map_append, List.foldl_append]
  rfl
theorem sh4_i {t : Nat} (ht : t < 4) : (24 : Int32) - ((8 : Int32) * nI t) = nI (24 - 8 * t) := by
  rw [show (8 : Int32) = nI 8 from rfl, pk_mul, show (24 : Int32) = nI 24 from rfl, pk_sub (by omega)]
theorem sr_sum_66 {y1 mcd0 : Int32} {pq : Int32 → Int32 → Prop} {kx : Int32 → Int32 → Int32 → Prop} {l : List Int32} {n q y : Nat} (hn : n < 2 ^ 20) (hy : y < 65536) (hq : mL y = l.getD q 0) (hk : ∀ z, kx (sB_ l (min (4 * q + 4) n)) (nI (n - min (4 * q + 4) n)) z) :
    ∀ (m t : Nat), t + m = 4 → 4 * q + t ≤ n → wqR_sum_66 mR mY mZ mF mL mN y1 (nI y) mcd0 pq kx (m + 1) (sB_ l (4 * q + t)) (nI (n - (4 * q + t))) (nI t) := by
  intro m
  induction m with
  | zero =>
    intro t ht hle
    have : t = 4 := by omega
    subst this
    unfold wqR_sum_66
    refine ⟨fun _ => ?_, fun z => absurd (by decide) z⟩
    have := hk (nI 4)
    rw [Nat.min_eq_left hle] at this
    exact this
  | succ m ih =>
    intro t ht hle
    unfold wqR_sum_66
    refine ⟨fun z => absurd z (nI_ge (b := 4) (by omega) (by omega)), fun _ => ⟨fun z => ?_, fun z => ⟨vp_in_nI hy (by omega), ?_⟩⟩⟩
    · rw [← nI_0, nI_leI (by omega) (by omega)] at z
      have := hk (nI t)
      have e : min (4 * q + 4) n = 4 * q + t := by omega
      rw [e] at this
      exact this
    · rw [← nI_0, nI_leI (by omega) (by omega)] at z
      rw [nI_clamp (by omega), hq, sh4_i (by omega), by_get _ _ (24 - 8 * t) (by have := shR_u t; rwa [Nat.mod_eq_of_lt (show t < 4 by omega)] at this), zi_1, show n - (4 * q + t) = n - (4 * q + (t + 1)) + 1 by omega, nI_pred]
      have hb : by_ (l.getD q 0) (24 - 8 * t) = bxR l (4 * q + t) := by
        unfold bxR
        rw [show (4 * q + t) / 4 = q by omega, show (4 * q + t) % 4 = t by omega]
      rw [hb, ← sB_s]
      exact ih (t + 1) (by omega) (by omega)
theorem sr_sum_58 {y1 mcd0 : Int32} {pq : Int32 → Int32 → Prop} {kx : Int32 → Int32 → Int32 → Prop} {l : List Int32} {n : Nat} (hn : n < 2 ^ 20) (hl : l.length = (n + 3) / 4) (hk : ∀ z1 z2, kx (sB_ l n) z1 z2) :
    ∀ (ys : List Nat) (q : Nat) (v : Int32), q + ys.length = l.length → zc_ch mN v ys → (∀ c ∈ ys, c < 65536) → (∀ t y, ys[t]? = some y → mL y = l.getD (q + t) 0) →
      wqR_sum_58 mR mY mZ mF mL mN y1 mcd0 pq kx (ys.length + 1) (sB_ l (min (4 * q) n)) (nI (n - min (4 * q) n)) v := by
  intro ys
  induction ys with
  | nil =>
    intro q v hq hch _ _
    unfold wqR_sum_58
    rw [show v = -1 from hch]
    refine ⟨fun _ => ?_, fun z => absurd (by decide) z⟩
    simp at hq
    rw [show min (4 * q) n = n by omega]
    exact hk _ _
  | cons y ys ih =>
    intro q v hq hch hlt hv
    obtain ⟨h1, h2⟩ := hch
    have hy := hlt y List.mem_cons_self
    simp only [List.length_cons] at hq
    unfold wqR_sum_58
    rw [h1]
    refine ⟨fun z => absurd z (nI_pos (by omega)), fun _ => ⟨5, ?_⟩⟩
    have hle : 4 * q ≤ n := by omega
    rw [Nat.min_eq_left hle]
    refine sr_sum_66 (q := q) (y := y) (n := n) (l := l) hn hy (by have := hv 0 y rfl; rwa [Nat.add_zero] at this) ?_ 4 0 (by omega) (by omega)
    intro z
    rw [nI_clamp (by omega)]
    refine ⟨vp_in_nI hy (by omega), ?_⟩
    have := ih (q + 1) (mN y) (by omega) h2 (fun c hc => hlt c (List.mem_cons_of_mem _ hc)) (fun t x hx => by
      have := hv (t + 1) x (by simpa using hx)
      rwa [show q + (t + 1) = q + 1 + t by omega] at this)
    rw [show 4 * (q + 1) = 4 * q + 4 by omega] at this
    exact this
theorem rR_sum {pq : Int32 → Int32 → Prop} (hE : nE ≤ 8192) (hW : nW ≤ 65536) (hc : r_rep nW nE G mwd men mR mI mC mY mZ mF mmd mhi mL mN mfr) (hA : A_sum G a c o_ G')
    (h : ∀ b, (c = 0 → b = o_) → r_rep nW nE G' mwd men mR mI mC mY mZ mF mmd mhi mL mN mfr → pq b c) : wqR_sum mcd mR mY mZ mF mL mN a pq := by
  unfold wqR_sum wqR_sum_16 wqR_sum_31
  obtain ⟨e1, e2, e3, os, cs, fl, hi, e4, hc'⟩ := id hc
  rcases hA with ⟨k, hk, rfl, rfl, rfl⟩ | ⟨hn, rfl, rfl⟩
  · refine sr_isReg_in hk ⟨fun z => absurd z (by decide), fun _ => ⟨fun z => absurd z (by decide), fun _ => ?_⟩⟩
    cases hg : G'.1 k with
    | inl v =>
      rw [hg] at h
      refine sr_hasBytes_out hE hc' ?_ ⟨fun _ => h _ (fun _ => rfl) hc, fun z => absurd rfl z⟩
      rintro ⟨i, ⟨k', hk', hi'⟩, -⟩
      rw [gReg_u hk' hk, hg] at hi'
      cases hi'
    | inr i =>
      rw [hg] at h
      obtain ⟨o, ho, h1, h2, h3, h4, h5, h6, h7⟩ := r_obj hE hc' hk.1 hg
      have hs : gSum G' (.inr i) = if oH o % 2 = 1 then sB_ (oB o) (oH o / 2) else 0 := by
        show (if (G'.2.1 i).2.1 % 2 = 1 then (G'.2.1 i).2.2.2.foldl (fun t b => (31 : Int32) * t + b) 7 else 0) = _
        rw [ao_sh h4, ao_by h4]
        split <;> rfl
      rw [hs] at h
      refine sr_hasBytes_in hE hk h1 h5 ?_
      obtain ⟨q1, q2, q3, q4, q5, q6, q7, q8, q9⟩ := id h5
      rcases (show oH o % 2 = 1 ∨ oH o % 2 = 0 by omega) with q | q
      · rw [if_pos q] at h
        rw [q]
        refine ⟨fun z => absurd z (by decide), fun _ => sr_sizeOf hE hk h1 h5 ⟨gReg_in hk, ?_⟩⟩
        rw [gReg_cl hk, h1]
        refine sr_placeOf h7 ⟨vp_in_nI h7 (by omega), (cs (oE o)).length + 1, ?_⟩
        rw [nI_clamp (by omega)]
        have hlen : (cs (oE o)).length = (oB o).length := by rw [← q9, List.length_map]
        have := sr_sum_58 (mR := mR) (mY := mY) (mZ := mZ) (mF := mF) (mL := mL) (mN := mN) (y1 := a) (mcd0 := 0) (pq := pq) (kx := fun z2_58 z3_58 z4_58 => pq z2_58 0) (l := oB o) (n := oH o / 2) (by omega) (by rw [h6, bW_odd q]) (fun _ _ => h _ (fun _ => rfl) hc) (cs (oE o)) 0 (mF (oE o)) (by omega) q8 (fun c hc2 => by have := r_clt hc'.2.2.1.2.2.2 ho hc2; omega) (fun t y hy => by
          rw [Nat.zero_add, List.getD_eq_getElem?_getD, ← q9, List.getElem?_map, hy]
          rfl)
        exact this
      · rw [if_neg (by omega)] at h
        rw [q]
        exact ⟨fun _ => h _ (fun _ => rfl) hc, fun z => absurd rfl z⟩
  · exact sr_isReg_out hn ⟨fun _ => ⟨fun _ => h _ (fun z => absurd z (by decide)) hc, fun z => absurd (by decide) z⟩, fun z => absurd rfl z⟩
/-! become -/
theorem upd_sw (f : Nat → Int32) (p q e : Nat) : upd (upd f p (f q)) q (f p) (zo_sw p q e) = f e := by
  unfold zo_sw
  by_cases c1 : e = p
  · rw [if_pos c1, pk_us, c1]
  · rw [if_neg c1]
    by_cases c2 : e = q
    · rw [if_pos c2, pk_un (fun z => c1 (by rw [c2, z])), pk_us, c2]
    · rw [if_neg c2, pk_un c2, pk_un c1]
theorem nar_b {n : Nat} (h : n < 2) : vp_nar .boolean (nI n) = nI n := by
  rcases (show n = 0 ∨ n = 1 by omega) with rfl | rfl <;> decide
theorem rR_become {pq : Int32 → (Nat → Int32) → (Nat → Int32) → (Nat → Int32) → (Nat → Int32) → (Nat → Int32) → Prop} (hE : nE ≤ 8192) (hc : r_rep nW nE G mwd men mR mI mC mY mZ mF mmd mhi mL mN mfr) (hA : A_become G a1 a2 c G')
    (h : ∀ mI' mC' mY' mZ' mF', r_rep nW nE G' mwd men mR mI' mC' mY' mZ' mF' mmd mhi mL mN mfr → pq c mI' mC' mY' mZ' mF') : wqR_become mcd mR mI mC mY mZ mF a1 a2 pq := by
  unfold wqR_become wqR_become_25
  obtain ⟨e1, e2, e3, os, cs, fl, hi, e4, hc'⟩ := id hc
  rcases hA with ⟨i, j, ⟨k, hk, hi'⟩, ⟨k2, hk2, hj⟩, rfl, rfl⟩ | ⟨hn, rfl, rfl⟩
  · obtain ⟨x, hxm, h1, h2, h3, h4, h5, h6, h7⟩ := r_obj hE hc' hk.1 hi'
    obtain ⟨y, hym, g1, g2, g3, g4, g5, g6, g7⟩ := r_obj hE hc' hk2.1 hj
    refine sr_has_in hk h1 h7 ⟨fun z => absurd z (by decide), fun _ => sr_has_in hk2 g1 g7 ⟨fun z => absurd z (by decide), fun _ => ⟨fun _ => ⟨gReg_in hk, ?_⟩, fun z => absurd (by decide) z⟩⟩⟩
    rw [gReg_cl hk, h1]
    refine sr_placeOf h7 ⟨gReg_in hk2, ?_⟩
    rw [gReg_cl hk2, g1]
    refine sr_placeOf g7 ?_
    rw [nI_clamp (n := oE x) (by omega), nI_clamp (n := oE y) (by omega)]
    have vx : vp_in (nI (oE x)) 8192 := vp_in_nI h7 (by omega)
    have vy : vp_in (nI (oE y)) 8192 := vp_in_nI g7 (by omega)
    refine ⟨vx, vx, vx, vx, vx, vy, vx, vy, vx, vy, vx, vy, vx, vy, vx, vy, vy, vy, vy, vy, ?_⟩
    have nx : vp_nar .boolean (mY (oE x)) = mY (oE x) := by rw [h5.2.2.2.2.2.1]; exact nar_b (by omega)
    have ny : vp_nar .boolean (mY (oE y)) = mY (oE y) := by rw [g5.2.2.2.2.2.1]; exact nar_b (by omega)
    rw [nx, ny]
    obtain ⟨c1, c2, ⟨m1, m2, m3, m4⟩, c4, c5⟩ := id hc'
    obtain ⟨b1, b2, b3⟩ := zo_become c1 c2 hxm hym hk.1 hk2.1 (by rw [h1, zo_dec_ov h7]) (by rw [g1, zo_dec_ov g7])
    rw [h2, g2] at b2
    have hent : ∀ o ∈ os, ∃ o2 ∈ os, zo_sw (oE x) (oE y) (oE o2) = oE o := by
      intro o ho
      unfold zo_sw
      by_cases q1 : oE o = oE x
      · refine ⟨y, hym, ?_⟩
        split
        · rename_i z; rw [q1]; exact z
        · rw [if_pos rfl, q1]
      · by_cases q2 : oE o = oE y
        · exact ⟨x, hxm, by rw [if_pos rfl, q2]⟩
        · exact ⟨o, ho, by rw [if_neg q1, if_neg q2]⟩
    refine h _ _ _ _ _ ⟨e1, e2, e3, os.map (zo_swo (oE x) (oE y)), fun e => cs (zo_sw (oE x) (oE y) e), fl, hi, e4, b1, b2, ⟨?_, ?_, m3, ?_⟩, c4, ?_⟩
    · intro o ho
      obtain ⟨o', ho', rfl⟩ := List.mem_map.mp ho
      obtain ⟨q1, q2, q3, q4, q5, q6, q7, q8, q9⟩ := m1 o' ho'
      refine ⟨?_, q2, q3, ?_, ?_, ?_, ?_, ?_, ?_⟩
      · show zo_sw (oE x) (oE y) (oE o') < nE
        unfold zo_sw
        split
        · exact g5.1
        · split
          · exact h5.1
          · exact q1
      · show upd (upd mI (oE x) (mI (oE y))) (oE y) (mI (oE x)) (zo_sw (oE x) (oE y) (oE o')) = _
        rw [upd_sw]; exact q4
      · show upd (upd mC (oE x) (mC (oE y))) (oE y) (mC (oE x)) (zo_sw (oE x) (oE y) (oE o')) = _
        rw [upd_sw]; exact q5
      · show upd (upd mY (oE x) (mY (oE y))) (oE y) (mY (oE x)) (zo_sw (oE x) (oE y) (oE o')) = _
        rw [upd_sw]; exact q6
      · show upd (upd mZ (oE x) (mZ (oE y))) (oE y) (mZ (oE x)) (zo_sw (oE x) (oE y) (oE o')) = _
        rw [upd_sw]; exact q7
      · show zc_ch mN (upd (upd mF (oE x) (mF (oE y))) (oE y) (mF (oE x)) (zo_sw (oE x) (oE y) (oE o'))) (cs (zo_sw (oE x) (oE y) (zo_sw (oE x) (oE y) (oE o'))))
        rw [upd_sw, zo_sw_sw]; exact q8
      · show (cs (zo_sw (oE x) (oE y) (zo_sw (oE x) (oE y) (oE o')))).map mL = oB o'
        rw [zo_sw_sw]; exact q9
    · intro p hp hno
      have hno' : ∀ o ∈ os, oE o ≠ p := by
        intro o ho e
        obtain ⟨o2, ho2, he2⟩ := hent o ho
        exact hno _ (List.mem_map_of_mem ho2) (by show zo_sw (oE x) (oE y) (oE o2) = p; rw [he2, e])
      rw [pk_un (fun e => hno' y hym e.symm), pk_un (fun e => hno' x hxm e.symm)]
      exact m2 p hp hno'
    · have : zc_all (os.map (zo_swo (oE x) (oE y))) (fun e => cs (zo_sw (oE x) (oE y) e)) = zc_all os cs := by
        unfold zc_all
        rw [List.flatMap_map]
        congr 1
        funext o
        show cs (zo_sw (oE x) (oE y) (zo_sw (oE x) (oE y) (oE o))) = _
        rw [zo_sw_sw]
      rw [this]
      exact m4
    · intro p hp
      obtain ⟨o, ho, hoe⟩ := c5 p hp
      obtain ⟨o2, ho2, he2⟩ := hent o ho
      exact ⟨_, List.mem_map_of_mem ho2, by show zo_sw (oE x) (oE y) (oE o2) = p; rw [he2, hoe]⟩
  · have hq := h mI mC mY mZ mF hc
    by_cases q : ∃ i, gHas G' a1 i
    · obtain ⟨i, k, hk, hi'⟩ := id q
      obtain ⟨x, hxm, h1, h2, h3, h4, h5, h6, h7⟩ := r_obj hE hc' hk.1 hi'
      exact sr_has_in hk h1 h7 ⟨fun z => absurd z (by decide), fun _ => sr_has_out hc'.1 hc'.2.1 (fun z => hn ⟨q, z⟩) ⟨fun _ => ⟨fun z => absurd z (by decide), fun _ => hq⟩, fun z => absurd rfl z⟩⟩
    · exact sr_has_out hc'.1 hc'.2.1 q ⟨fun _ => ⟨fun z => absurd z (by decide), fun _ => hq⟩, fun z => absurd rfl z⟩
end RC

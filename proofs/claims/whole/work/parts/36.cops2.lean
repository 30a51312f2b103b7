/-! the class's calls: walk, bytes, what a register has, become, reaches, sum -/
theorem vp01 : vp_in (0 : Int32) 1 := by
  have := vp_in_nI (n := 0) (N := 1) (by omega) (by omega)
  rwa [nI_0] at this
theorem ot_ {ot : Nat → Int64} {x : Int64} : vp_updL ot (0 : Int32).toNatClampNeg x 0 = x := pk_uLs
section CQ
variable {nW nE D K : Nat} {os : List Ob_} {sl : List Nat} {G G' : G_} {R f P S ro rc : Nat → Int32} {us sc li rd st rn : Int32} {a b a1 a2 a3 c o_ w : Int32} {px : String → Prop} {ot : Nat → Int64}
theorem sp_walk_23 {y1 st0 : Int32} {post : Int32 → (Nat → Int32) → Int32 → Prop} {px : String → (Nat → Int32) → Int32 → Prop} {kx : Int32 → Int32 → Prop} (hE : nE ≤ 8192) (hW : nW ≤ 65536) (hc : c_core nW nE os sl D G R f P S ro st) :
    ∀ (m s : Nat) (v : Int32) (d : Nat) (w : AV_), s + m ≤ 10000 → zo_ok os R v → gWalk G a2 m (zv_ os v) d w → (∀ v', zo_ok os R v' → zv_ os v' = w → kx v' (nI (s + d))) →
      wqT_walk_23 nW nE f P y1 a2 (nI (s + m)) R st0 post px kx (m + 1) v (nI s) := by
  have hw := hc.wf hE
  intro m
  induction m with
  | zero =>
    intro s v d w hs hv hg hk
    obtain ⟨rfl, rfl⟩ := hg
    unfold wqT_walk_23
    exact ⟨fun _ => hk v hv rfl, fun q => absurd (nI_le (by omega) (by omega)) q⟩
  | succ m ih =>
    intro s v d w hs hv hg hk
    unfold wqT_walk_23
    refine ⟨fun q => absurd q (nI_ge (by omega) (by omega)), fun _ => ?_⟩
    have stop : (¬ ∃ u, gStep G a2 (zv_ os v) u) → kx v (nI s) := by
      intro hn
      rcases hg with ⟨u, d', hu, -, -⟩ | ⟨-, rfl, rfl⟩
      · exact absurd ⟨u, hu⟩ hn
      · exact hk v hv rfl
    rcases hv.1 with q | ⟨o, ho, rfl⟩
    · refine sp_holdsSlot_n q ⟨fun _ => stop ?_, fun z => absurd rfl z⟩
      rintro ⟨u, i, j, h1, -⟩
      rw [zv_n q] at h1
      cases h1
    · obtain ⟨pre, po, rfl⟩ := zo_split ho
      have hob := hc.1.1.ob hE hW
      have hm := hc.1.1.2.2.2.1 o ho
      have hr := hv.2 _ (zo_dec_ov (hw.2.1 o ho))
      have h4 := hc.2.2.2 o ho hr
      have hz := zv_ov hw.1 ho (hw.2.1 o ho)
      refine sp_holdsSlot_o hob (fun hno => ⟨fun _ => stop ?_, fun z => absurd rfl z⟩) (fun cev c2 c3 => ⟨fun z => absurd z (by decide), fun _ => ?_⟩)
      · rintro ⟨u, i, j, h1, h2, h3, -⟩
        rw [hz] at h1
        cases h1
        rw [ao_sh h4] at h2 h3
        rcases hno with q | q | q
        · omega
        · rw [h3.2] at q
          exact nI_pos (by have := h3.1; omega) q
        · rw [h3.2] at q
          exact nI_ge h3.1 (by omega) q
      · obtain ⟨j, hj⟩ : ∃ j, gIx a2 (oH o / 2) j := by
          obtain ⟨j, hj, e⟩ := nI_of c2
          rw [e, nI_leI (by omega) hj] at c3
          exact ⟨j, by omega, e⟩
        have hev : oH o % 2 = 0 := by omega
        obtain ⟨x, hx⟩ := ix_some hev hm.2.1 hj.1
        obtain ⟨hj1, hj2⟩ := id hj
        rw [hj2]
        refine sp_slot hob hx ?_
        rw [zi_1, show s + (m + 1) = s + 1 + m by omega, ← hj2]
        rcases hg with ⟨u, d', hu, rfl, hg'⟩ | ⟨hn, -, -⟩
        · have hu2 : u = zv_ (pre ++ o :: po) x := by
            obtain ⟨i, j', h1, h2, h3, h5⟩ := hu
            rw [hz] at h1
            cases h1
            rw [ao_sh h4] at h3
            have : j' = j := by
              obtain ⟨h6, h7⟩ := h3
              rw [hj2] at h7
              exact ((nI_eq (by omega) (by omega)).mp h7).symm
            subst this
            rw [h5, ao_sl h4, sl_getD hev hx]
          rw [hu2] at hg'
          refine ih (s + 1) x d' w (by omega) (zo_ok_kid hw ho hr (mem_kids_sl hev hx)) hg' ?_
          intro v' h6 h7
          rw [show s + 1 + d' = s + (d' + 1) by omega]
          exact hk v' h6 h7
        · exact absurd ⟨_, oI o, j, hz, by rw [ao_sh h4]; exact hev, by rw [ao_sh h4]; exact hj, rfl⟩ hn
theorem cL_walk {pq : Int32 → (Nat → Int32) → Int32 → (Nat → Int64) → Prop} (hE : nE ≤ 8192) (hW : nW ≤ 65536) (hc : c_rep nW nE K G R f us P S sc li ro rd st) (hA : A_walk G a1 a2 a3 c o_ G')
    (h : ∀ R' st' ot', (c = 0 → ot' 0 = o_.toInt64) → c_rep nW nE K G' R' f us P S sc li ro rd st' → pq c R' st' ot') : wqL_walk nW nE R f P st ot a1 a2 a3 pq := by
  unfold wqL_walk wqT_walk
  rcases hA with ⟨k, n, d, w, hk, hn, rfl, hg, rfl, rfl, rfl⟩ | ⟨hn, rfl, rfl⟩
  · obtain ⟨os, sl, D, e1, e2, e3, e4, e5, e6, hc⟩ := hc
    have h0 := (nI_ex (a := nI n) (N := 10000) (by omega)).mp ⟨n, hn, rfl⟩
    refine sp_needReg_in hk (sp_needBetween_in h0.1 h0.2 ⟨gReg_in hk, n + 1, ?_⟩)
    rw [gReg_cl hk]
    have hw := hc.wf hE
    rw [← hc.2.2.1 k hk.1] at hg
    have := sp_walk_23 (y1 := a1) (st0 := st) (post := fun r7 R_7 st_7 => vp_in (0 : Int32) 1 ∧ (pq (0 : Int32) R_7 st_7 (vp_updL ot (0 : Int32).toNatClampNeg r7.toInt64))) (px := fun E R_7 st_7 => (E = "java/lang/IllegalArgumentException" ∧ (pq (1 : Int32) R_7 st_7 ot))) (kx := fun z4 z5 => wqT_setRegister nW nE R st a1 z4 (fun R_82 st_82 => vp_in (0 : Int32) 1 ∧ (pq (0 : Int32) R_82 st_82 (vp_updL ot (0 : Int32).toNatClampNeg z5.toInt64)))) hE hW hc n 0 (R k) d w (by omega) (zo_ok_reg hw hk.1) hg ?_
    · rw [Nat.zero_add] at this
      exact this
    · intro v' h6 h7
      refine c_setReg hE hc hk h6 ?_
      intro st' hc'
      rw [h7] at hc'
      rw [Nat.zero_add]
      exact ⟨vp01, h _ _ _ (fun _ => ot_) ⟨os, sl, D, e1, e2, e3, e4, e5, e6, hc'⟩⟩
  · by_cases q : ∃ k, gReg a1 k
    · obtain ⟨k, hk⟩ := q
      refine sp_needReg_in hk (sp_needBetween_out ?_ ⟨rfl, h _ _ _ (fun z => absurd z (by decide)) hc⟩)
      intro z
      exact hn ⟨⟨k, hk⟩, (nI_ex (a := a3) (N := 10000) (by omega)).mpr z⟩
    · exact sp_needReg_out q ⟨rfl, h _ _ _ (fun z => absurd z (by decide)) hc⟩
theorem cL_kind {pq : Int32 → (Nat → Int64) → Prop} (hE : nE ≤ 8192) (hW : nW ≤ 65536) (hc : c_rep nW nE K G R f us P S sc li ro rd st) (hA : A_kind G a c o_ G')
    (h : ∀ ot', (c = 0 → ot' 0 = o_.toInt64) → c_rep nW nE K G' R f us P S sc li ro rd st → pq c ot') : wqL_kind nW nE R f P ot a pq := by
  unfold wqL_kind wqT_kind
  rcases hA with ⟨k, hk, rfl, rfl, rfl⟩ | ⟨hn, rfl, rfl⟩
  · obtain ⟨os, sl, D, e1, e2, e3, e4, e5, e6, hc'⟩ := id hc
    refine sp_needReg_in hk ⟨gReg_in hk, ?_⟩
    rw [gReg_cl hk]
    cases hg : G'.1 k with
    | inl v =>
      rw [hg] at h
      obtain ⟨h1, h2⟩ := zq_val (hc'.wf hE) hc'.2.2 hk.1 hg
      rw [h1]
      refine ⟨fun q => ⟨vp01, h _ (fun _ => ?_) hc⟩, fun q => ?_⟩
      · rw [ot_]
        unfold gKind
        simp [q]
      · unfold wqV_isNumber
        have q2 : ¬ v &&& (1 : Int32) = 0 := by
          rcases h2 with h2 | h2
          · exact absurd h2 q
          · exact h2
        refine ⟨fun z => absurd z q2, fun _ => ⟨fun z => absurd z (by decide), fun _ => ⟨vp01, h _ (fun _ => ?_) hc⟩⟩⟩
        rw [ot_]
        unfold gKind
        simp [q]
    | inr i =>
      rw [hg] at h
      obtain ⟨pre, o, po, rfl, h1, h2, h3, h4, h5, h6, h7, h8⟩ := c_obj hE hW hc' hk.1 hg
      rw [h1]
      refine ⟨fun q => absurd q (ov_ne0 (by omega)), fun _ => sp_isNumber_o (by omega) ⟨fun _ => sp_holdsSlots_o h5 ?_, fun z => absurd rfl z⟩⟩
      by_cases cc : oH o % 2 = 1
      · rw [if_pos cc]
        refine ⟨fun _ => ⟨vp01, h _ (fun _ => ?_) hc⟩, fun z => absurd rfl z⟩
        rw [ot_]
        show _ = (if (G'.2.1 i).2.1 % 2 = 1 then (3 : Int32) else 2).toInt64
        rw [ao_sh h4, if_pos cc]
      · rw [if_neg cc]
        refine ⟨fun z => absurd z (by decide), fun _ => ⟨vp01, h _ (fun _ => ?_) hc⟩⟩
        rw [ot_]
        show _ = (if (G'.2.1 i).2.1 % 2 = 1 then (3 : Int32) else 2).toInt64
        rw [ao_sh h4, if_neg cc]
  · exact sp_needReg_out hn ⟨rfl, h _ (fun z => absurd z (by decide)) hc⟩
theorem cL_value {pq : Int32 → (Nat → Int64) → Prop} (hE : nE ≤ 8192) (hW : nW ≤ 65536) (hc : c_rep nW nE K G R f us P S sc li ro rd st) (hA : A_value G a c o_ G')
    (h : ∀ ot', (c = 0 → ot' 0 = o_.toInt64) → c_rep nW nE K G' R f us P S sc li ro rd st → pq c ot') : wqL_value nW nE R f P ot a pq := by
  unfold wqL_value wqT_value
  rcases hA with ⟨k, hk, rfl, rfl, rfl⟩ | ⟨hn, rfl, rfl⟩
  · obtain ⟨os, sl, D, e1, e2, e3, e4, e5, e6, hc'⟩ := id hc
    refine sp_needReg_in hk ⟨gReg_in hk, ?_⟩
    rw [gReg_cl hk]
    cases hg : G'.1 k with
    | inl v =>
      rw [hg] at h
      obtain ⟨h1, h2⟩ := zq_val (hc'.wf hE) hc'.2.2 hk.1 hg
      rw [h1]
      refine ⟨fun q => ⟨vp01, h _ (fun _ => ?_) hc⟩, fun q => ?_⟩
      · rw [ot_]
        unfold gVal
        simp [q]
      · unfold wqV_isNumber wqV_toNumber
        have q2 : ¬ v &&& (1 : Int32) = 0 := by
          rcases h2 with h2 | h2
          · exact absurd h2 q
          · exact h2
        refine ⟨fun z => absurd z q2, fun _ => ⟨fun z => absurd z (by decide), fun _ => ⟨vp01, h _ (fun _ => ?_) hc⟩⟩⟩
        rw [ot_]
        show _ = (if v = 0 then (0 : Int32) else v >>> ((1 : Int32) &&& 31)).toInt64
        rw [if_neg q]
    | inr i =>
      rw [hg] at h
      obtain ⟨pre, o, po, rfl, h1, h2, h3, h4, h5, h6, h7, h8⟩ := c_obj hE hW hc' hk.1 hg
      rw [h1]
      refine ⟨fun q => absurd q (ov_ne0 (by omega)), fun _ => sp_isNumber_o (by omega) ⟨fun _ => sp_identity h5 ⟨vp01, h _ (fun _ => ?_) hc⟩, fun z => absurd rfl z⟩⟩
      rw [ot_, h2]
      rfl
  · exact sp_needReg_out hn ⟨rfl, h _ (fun z => absurd z (by decide)) hc⟩
theorem cL_size {pq : Int32 → (Nat → Int64) → Prop} (hE : nE ≤ 8192) (hW : nW ≤ 65536) (hc : c_rep nW nE K G R f us P S sc li ro rd st) (hA : A_size G a c o_ G')
    (h : ∀ ot', (c = 0 → ot' 0 = o_.toInt64) → c_rep nW nE K G' R f us P S sc li ro rd st → pq c ot') : wqL_size nW nE R f P ot a pq := by
  unfold wqL_size wqT_size
  rcases hA with ⟨k, hk, rfl, rfl, rfl⟩ | ⟨hn, rfl, rfl⟩
  · obtain ⟨os, sl, D, e1, e2, e3, e4, e5, e6, hc'⟩ := id hc
    refine sp_needReg_in hk ⟨gReg_in hk, ?_⟩
    rw [gReg_cl hk]
    cases hg : G'.1 k with
    | inl v =>
      rw [hg] at h
      obtain ⟨h1, h2⟩ := zq_val (hc'.wf hE) hc'.2.2 hk.1 hg
      rw [h1]
      refine sp_isObject_n h2 ⟨fun _ => ⟨vp01, h _ (fun _ => ot_) hc⟩, fun z => absurd rfl z⟩
    | inr i =>
      rw [hg] at h
      obtain ⟨pre, o, po, rfl, h1, h2, h3, h4, h5, h6, h7, h8⟩ := c_obj hE hW hc' hk.1 hg
      rw [h1]
      refine sp_isObject_o (by omega) ⟨fun z => absurd z (by decide), fun _ => ⟨gReg_in hk, sp_count h5 ⟨vp01, h _ (fun _ => ?_) hc⟩⟩⟩
      rw [ot_]
      show _ = (nI ((G'.2.1 i).2.1 / 2)).toInt64
      rw [ao_sh h4]
  · exact sp_needReg_out hn ⟨rfl, h _ (fun z => absurd z (by decide)) hc⟩
/-! bytes -/
theorem zi_3m {i : Nat} (hi : i < 2 ^ 31) : (8 : Int32) * (nI i &&& (3 : Int32)) = nI (8 * (i % 4)) := by
  rw [pk_andN (by omega) (m := 3) 2 (by decide), show (8 : Int32) = nI 8 from rfl, pk_mul]
theorem sh_u (i : Nat) : (((nI (8 * (i % 4))).toUInt32 &&& Int32.toUInt32 31).toBitVec % 32).toNat = 8 * (i % 4) := by
  rcases (show i % 4 = 0 ∨ i % 4 = 1 ∨ i % 4 = 2 ∨ i % 4 = 3 by omega) with q | q | q | q <;> rw [q] <;> decide
theorem sh_s (i : Nat) : ((nI (8 * (i % 4)) &&& (31 : Int32)).toBitVec.smod 32).toNat = 8 * (i % 4) := by
  rcases (show i % 4 = 0 ∨ i % 4 = 1 ∨ i % 4 = 2 ∨ i % 4 = 3 by omega) with q | q | q | q <;> rw [q] <;> decide
theorem by_at {o : Ob_} {e p i : Nat} (h : zo_ob nW nE f P e o p) (hh : oH o % 2 = 1) (hl : (oB o).length = bW_ (oH o)) (hi : i < oH o / 2) : f (p + 4 + i / 4) = (oB o).getD (i / 4) 0 ∧ i / 4 < (oB o).length := by
  rw [bW_odd hh] at hl
  have hlt : i / 4 < (oB o).length := by omega
  have := h.bd (i := i / 4) (x := (oB o)[i / 4]) (List.getElem?_eq_getElem hlt)
  rw [this, List.getD_eq_getElem?_getD, List.getElem?_eq_getElem hlt]
  exact ⟨rfl, hlt⟩
theorem sp_byteFrom {o : Ob_} {e p i : Nat} {pq : Int32 → Prop} (h : zo_ob nW nE f P e o p) (hh : oH o % 2 = 1) (hl : (oB o).length = bW_ (oH o)) (hi : i < oH o / 2) (hp : pq (bxC (oB o) i)) : wqM_byteFrom nW nE f (nI (p + 4)) (nI i) pq := by
  obtain ⟨hb, hlt⟩ := by_at h hh hl hi
  obtain ⟨h1, h2, h3, h4, h5, h6, h7⟩ := h
  unfold wqM_byteFrom wqM_shiftOf
  rw [zi_shr2 (by omega), nI_add, zi_3m (by omega)]
  refine sp_word h7 (by omega) ?_
  rw [hb]
  show pq (((((oB o).getD (i / 4) 0).toUInt32 >>> ((nI (8 * (i % 4))).toUInt32 &&& Int32.toUInt32 31)).toInt32) &&& (255 : Int32))
  rw [by_get _ _ _ (sh_u i)]
  exact hp
theorem sp_oneByte {o : Ob_} {e p i : Nat} {pq : Int32 → Prop} (h : zo_ob nW nE f P e o p) (hh : oH o % 2 = 1) (hl : (oB o).length = bW_ (oH o)) (hi : i < oH o / 2) (hp : pq (bxC (oB o) i)) : wqM_oneByte nW nE f P (ov_ e) (nI i) pq := by
  unfold wqM_oneByte
  refine sp_place h.2.2.2.2.2.1 h.1 ?_
  rw [h.2.1, zi_4]
  exact sp_byteFrom h hh hl hi hp
theorem sp_sum_21 {o : Ob_} {e p : Nat} {y1 : Int32} {post : Int32 → Prop} {kx : Int32 → Int32 → Prop} (h : zo_ob nW nE f P e o p) (hh : oH o % 2 = 1) (hl : (oB o).length = bW_ (oH o)) (K : ∀ x, kx (((List.range (oH o / 2)).map (bxC (oB o))).foldl (fun t b => (31 : Int32) * t + b) 7) x) :
    ∀ (m s : Nat) (t : Int32), s + m = oH o / 2 → t = ((List.range s).map (bxC (oB o))).foldl (fun t b => (31 : Int32) * t + b) 7 → wqM_sumOfBytes_21 nW nE f P y1 (nI (p + 4)) (nI (oH o / 2)) post kx (m + 1) t (nI s) := by
  have h20 := h.2.2.2.2.1
  intro m
  induction m with
  | zero =>
    intro s t hs ht
    unfold wqM_sumOfBytes_21
    have : s = oH o / 2 := by omega
    subst this
    refine ⟨fun _ => ?_, fun q => absurd (nI_le (Nat.le_refl _) (by omega)) q⟩
    rw [ht]
    exact K _
  | succ m ih =>
    intro s t hs ht
    unfold wqM_sumOfBytes_21
    refine ⟨fun q => absurd q (nI_ge (by omega) (by omega)), fun _ => sp_byteFrom h hh hl (by omega) ?_⟩
    rw [zi_1]
    refine ih (s + 1) _ (by omega) ?_
    rw [List.range_succ, List.map_append, List.foldl_append, ← ht]
    rfl
theorem sp_sumOfBytes {o : Ob_} {e p : Nat} {pq : Int32 → Prop} (h : zo_ob nW nE f P e o p) (hh : oH o % 2 = 1) (hl : (oB o).length = bW_ (oH o)) (hp : pq (((List.range (oH o / 2)).map (bxC (oB o))).foldl (fun t b => (31 : Int32) * t + b) 7)) : wqM_sumOfBytes nW nE f P (ov_ e) pq := by
  unfold wqM_sumOfBytes
  refine sp_place h.2.2.2.2.2.1 h.1 (sp_count h ⟨oH o / 2 + 1, ?_⟩)
  rw [h.2.1, zi_4]
  exact sp_sum_21 h hh hl (fun _ => hp) (oH o / 2) 0 7 (by omega) rfl
theorem cL_byteAt {pq : Int32 → (Nat → Int64) → Prop} (hE : nE ≤ 8192) (hW : nW ≤ 65536) (hc : c_rep nW nE K G R f us P S sc li ro rd st) (hA : A_byteAt G a1 a2 c o_ G')
    (h : ∀ ot', (c = 0 → ot' 0 = o_.toInt64) → c_rep nW nE K G' R f us P S sc li ro rd st → pq c ot') : wqL_byteAt nW nE R f P ot a1 a2 pq := by
  unfold wqL_byteAt wqT_byteAt
  obtain ⟨os, sl, D, e1, e2, e3, e4, e5, e6, hc'⟩ := id hc
  rcases hA with ⟨i, j, ⟨⟨k, hk, hi⟩, hod⟩, hj, rfl, rfl, rfl⟩ | ⟨i, ⟨⟨k, hk, hi⟩, hod⟩, hj, rfl, rfl⟩ | ⟨hn, rfl, rfl⟩
  · obtain ⟨pre, o, po, rfl, h1, h2, h3, h4, h5, h6, h7, h8⟩ := c_obj hE hW hc' hk.1 hi
    rw [ao_sh h4] at hod hj
    refine sp_needBytes_in hk h1 h5 hod (sp_needIndex_in hk h1 h5 hj ⟨gReg_in hk, ?_⟩)
    obtain ⟨hj1, rfl⟩ := hj
    rw [gReg_cl hk, h1]
    refine sp_oneByte h5 hod h7 hj1 ⟨vp01, h _ (fun _ => ?_) hc⟩
    rw [ot_, ao_by h4, if_pos hod, List.getD_eq_getElem?_getD, List.getElem?_map, List.getElem?_range hj1]
    rfl
  · obtain ⟨pre, o, po, rfl, h1, h2, h3, h4, h5, h6, h7, h8⟩ := c_obj hE hW hc' hk.1 hi
    rw [ao_sh h4] at hod hj
    exact sp_needBytes_in hk h1 h5 hod (sp_needIndex_out hk h1 h5 hj (Or.inr ⟨rfl, h _ (fun z => absurd z (by decide)) hc⟩))
  · exact sp_needBytes_out hE hW hc' hn (Or.inl ⟨rfl, h _ (fun z => absurd z (by decide)) hc⟩)
theorem cL_sum {pq : Int32 → (Nat → Int64) → Prop} (hE : nE ≤ 8192) (hW : nW ≤ 65536) (hc : c_rep nW nE K G R f us P S sc li ro rd st) (hA : A_sum G a c o_ G')
    (h : ∀ ot', (c = 0 → ot' 0 = o_.toInt64) → c_rep nW nE K G' R f us P S sc li ro rd st → pq c ot') : wqL_sum nW nE R f P ot a pq := by
  unfold wqL_sum wqT_sum
  rcases hA with ⟨k, hk, rfl, rfl, rfl⟩ | ⟨hn, rfl, rfl⟩
  · obtain ⟨os, sl, D, e1, e2, e3, e4, e5, e6, hc'⟩ := id hc
    refine sp_needReg_in hk ⟨gReg_in hk, ?_⟩
    rw [gReg_cl hk]
    cases hg : G'.1 k with
    | inl v =>
      rw [hg] at h
      obtain ⟨h1, h2⟩ := zq_val (hc'.wf hE) hc'.2.2 hk.1 hg
      rw [h1]
      exact sp_holdsBytes_n h2 ⟨fun _ => ⟨vp01, h _ (fun _ => ot_) hc⟩, fun z => absurd rfl z⟩
    | inr i =>
      rw [hg] at h
      obtain ⟨pre, o, po, rfl, h1, h2, h3, h4, h5, h6, h7, h8⟩ := c_obj hE hW hc' hk.1 hg
      rw [h1]
      refine sp_holdsBytes_o h5 ?_
      have hs : gSum G' (.inr i) = if oH o % 2 = 1 then ((List.range (oH o / 2)).map (bxC (oB o))).foldl (fun t b => (31 : Int32) * t + b) 7 else 0 := by
        show (if (G'.2.1 i).2.1 % 2 = 1 then (G'.2.1 i).2.2.2.foldl (fun t b => (31 : Int32) * t + b) 7 else 0) = _
        rw [ao_sh h4, ao_by h4]
        split <;> rfl
      by_cases cc : oH o % 2 = 1
      · rw [if_pos cc]
        rw [hs, if_pos cc] at h
        exact ⟨fun z => absurd z (by decide), fun _ => sp_sumOfBytes h5 cc h7 ⟨vp01, h _ (fun _ => ot_) hc⟩⟩
      · rw [if_neg cc]
        rw [hs, if_neg cc] at h
        exact ⟨fun _ => ⟨vp01, h _ (fun _ => ot_) hc⟩, fun z => absurd rfl z⟩
  · exact sp_needReg_out hn ⟨rfl, h _ (fun z => absurd z (by decide)) hc⟩
end CQ

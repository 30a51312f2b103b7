/-! the reference's copy and chain -/
section RH
variable {nW nE L hi : Nat} {os : List Ob_} {cs : Nat → List Nat} {fl : List Nat} {G G' : G_} {mR mI mC mY mZ mF mL mN mX mT : Nat → Int32} {mfr mcd mwd men mmd mhi mct mtk : Int32} {a b a1 a2 a3 a4 c o_ : Int32}
theorem sr_copy_120 {y1 y2 y3 y4 y5 mcd0 mmd0 mhi0 mfr0 mct0 mtk0 : Int32} {mR0 mI0 mC0 mY0 mZ0 mF0 mX0 mT0 : Nat → Int32} {pq : Int32 → Int32 → (Nat → Int32) → (Nat → Int32) → (Nat → Int32) → (Nat → Int32) → (Nat → Int32) → (Nat → Int32) → Int32 → Int32 → (Nat → Int32) → (Nat → Int32) → Int32 → (Nat → Int32) → (Nat → Int32) → Int32 → Int32 → Prop} {kx : Int32 → Int32 → (Nat → Int32) → Prop} :
    ∀ (ds ys : List Nat) (v w : Int32) (mL : Nat → Int32), ys.length = ds.length → zc_ch mN v ys → zc_ch mN w ds → ys.Nodup → (∀ x ∈ ys, x ∉ ds) → (∀ x ∈ ys, x < 65536) → (∀ x ∈ ds, x < 65536) → (∀ z1 z2 mL', ys.map mL' = ds.map mL → (∀ x, x ∉ ys → mL' x = mL x) → kx z1 z2 mL') →
      wqR_copy_120 mwd men y1 y2 y3 y4 y5 mcd0 mR0 mI0 mC0 mY0 mZ0 mF0 mmd0 mhi0 mN mfr0 mX0 mT0 mct0 mtk0 pq kx (ds.length + 1) v w mL := by
  intro ds
  induction ds with
  | nil =>
    intro ys v w mL hl _ h2 _ _ _ _ hk
    unfold wqR_copy_120
    rw [show w = -1 from h2]
    have : ys = [] := List.length_eq_zero_iff.mp (by simpa using hl)
    subst this
    exact ⟨fun _ => hk _ _ mL rfl (fun _ _ => rfl), fun z => absurd (by decide) z⟩
  | cons d ds ih =>
    intro ys v w mL hl h1 h2 hnd hdis hy hd hk
    cases ys with
    | nil => simp at hl
    | cons y ys =>
      obtain ⟨q1, q2⟩ := h1
      obtain ⟨p1, p2⟩ := h2
      have hyl := hy y List.mem_cons_self
      have hdl := hd d List.mem_cons_self
      rw [List.nodup_cons] at hnd
      have hyd : y ∉ d :: ds := hdis y List.mem_cons_self
      unfold wqR_copy_120
      rw [p1, q1, nI_clamp (n := d) (by omega), nI_clamp (n := y) (by omega)]
      have vy : vp_in (nI y) 65536 := vp_in_nI hyl (by omega)
      have vd : vp_in (nI d) 65536 := vp_in_nI hdl (by omega)
      refine ⟨fun z => absurd z (nI_pos (by omega)), fun _ => ⟨vd, vy, vy, vd, ?_⟩⟩
      refine ih ys (mN y) (mN d) (upd mL y (mL d)) (by simpa using hl) q2 p2 hnd.2 (fun x hx z => hdis x (List.mem_cons_of_mem _ hx) (List.mem_cons_of_mem _ z)) (fun x hx => hy x (List.mem_cons_of_mem _ hx)) (fun x hx => hd x (List.mem_cons_of_mem _ hx)) ?_
      intro z1 z2 mL' k1 k2
      refine hk z1 z2 mL' ?_ ?_
      · rw [List.map_cons, List.map_cons, k1, k2 y hnd.1, pk_us, map_upd_out (fun z => hyd (List.mem_cons_of_mem _ z))]
      · intro x hx
        rw [k2 x (fun z => hx (List.mem_cons_of_mem _ z)), pk_un (fun (e : x = y) => hx (by rw [e]; exact List.mem_cons_self))]
theorem rR_copy {pq : Int32 → Int32 → (Nat → Int32) → (Nat → Int32) → (Nat → Int32) → (Nat → Int32) → (Nat → Int32) → (Nat → Int32) → Int32 → Int32 → (Nat → Int32) → (Nat → Int32) → Int32 → (Nat → Int32) → (Nat → Int32) → Int32 → Int32 → Prop} (hE : nE ≤ 8192) (hW : nW ≤ 65536) (hL : G.2.2 + 1 < 2 ^ 31) (hr : g_room nW nE G) (hc : r_rep nW nE G mwd men mR mI mC mY mZ mF mmd mhi mL mN mfr) (hA : A_copy nW nE G a1 a2 c o_ G')
    (h : ∀ b mR' mI' mC' mY' mZ' mF' mmd' mhi' mL' mN' mfr' mX' mT' mct' mtk', (c = 0 → b = o_) → r_rep nW nE G' mwd men mR' mI' mC' mY' mZ' mF' mmd' mhi' mL' mN' mfr' → pq b c mR' mI' mC' mY' mZ' mF' mmd' mhi' mL' mN' mfr' mX' mT' mct' mtk') :
    wqR_copy mcd mwd men mR mI mC mY mZ mF mmd mhi mL mN mfr mX mT mct mtk a1 a2 pq := by
  obtain ⟨rfl, rfl, rfl, os, cs, fl, hi, rfl, hc'⟩ := id hc
  unfold wqR_copy
  rcases hA with ⟨k, i, hk, ⟨k2, hk2, hi'⟩, hfit, rfl, rfl, rfl⟩ | ⟨k, i, hk, ⟨k2, hk2, hi'⟩, hfit, rfl, rfl⟩ | ⟨hn, rfl, rfl⟩
  · obtain ⟨o, ho, h1, h2, h3, h4, h5, h6, h7⟩ := r_obj hE hc' hk2.1 hi'
    unfold g_w at hfit
    rw [ao_sh h4] at hfit
    refine sr_isReg_in hk ⟨fun z => absurd z (by decide), fun _ => sr_has_in hk2 h1 h7 ⟨fun z => absurd z (by decide), fun _ => ?_⟩⟩
    unfold wqR_copy_21
    refine ⟨fun z => absurd z (by decide), fun _ => sr_sizeOf hE hk2 h1 h5 (sr_hasBytes_in hE hk2 h1 h5 ?_)⟩
    refine sr_canMake hE hW (by omega) hr hc' h5.2.2.1 (fun q => absurd hfit q) ?_
    intro _ os' fl' mI' mN' mfr' mX' mT' mct' mtk' hc2 hall hsub
    refine ⟨fun z => absurd z (by decide), fun _ => ?_⟩
    obtain ⟨f1, f2, f3⟩ := r_fits hc2 hall hfit
    obtain ⟨d1, d2, d3, d4, d5⟩ := id hc2
    have ho' := hsub o ho h3
    obtain ⟨q1, q2, q3, q4, q5, q6, q7, q8, q9⟩ := id (d3.1 o ho')
    have vo : vp_in (nI (oE o)) 8192 := vp_in_nI h7 (by omega)
    unfold wqR_copy_55
    refine ⟨fun _ => ⟨gReg_in hk2, ?_⟩, fun z => absurd (by decide) z⟩
    rw [gReg_cl hk2, h1]
    refine sr_placeOf h7 ⟨vo, vo, vo, ?_⟩
    rw [nI_clamp (by omega), q5, q6, q7]
    refine sr_add (hi := 0) hE hW hL d1.1 d3 (fun p hp => by omega) f1 q3 f2 ?_
    intro p hi2 cs' fl2 mI2 mC2 mY2 mZ2 mF2 mL2 mN2 mfr2 hp hpn hm2 hh1 hh2 hcs hF _
    have vp : vp_in (nI p) 8192 := vp_in_nI (by omega) (by omega)
    have hn0 : ((p, G.2.2 + 1, oC o, oH o, List.replicate (bW_ (oH o)) 0) : Ob_) ∈ os' ++ [((p, G.2.2 + 1, oC o, oH o, List.replicate (bW_ (oH o)) 0) : Ob_)] := by simp
    have hoin : o ∈ os' ++ [((p, G.2.2 + 1, oC o, oH o, List.replicate (bW_ (oH o)) 0) : Ob_)] := List.mem_append_left _ ho'
    have hnd : ((os' ++ [((p, G.2.2 + 1, oC o, oH o, List.replicate (bW_ (oH o)) 0) : Ob_)]).map oE).Nodup := by
      rw [List.map_append, List.nodup_append]
      refine ⟨d1.1, by simp, ?_⟩
      intro x hx y hy
      obtain ⟨u, hu, rfl⟩ := List.mem_map.mp hx
      have : y = p := by simpa using hy
      rw [this]
      exact hpn u hu
    have obN := hm2.1 _ hn0
    have obO := hm2.1 _ hoin
    have hneo : ((p, G.2.2 + 1, oC o, oH o, List.replicate (bW_ (oH o)) 0) : Ob_) ≠ o := fun e => hpn o ho' (by rw [← e])
    have hlN : (cs' p).length = bW_ (oH o) := by
      have hq : (cs' p).map mL2 = List.replicate (bW_ (oH o)) 0 := obN.2.2.2.2.2.2.2.2
      have := congrArg List.length hq
      rw [List.length_map, List.length_replicate] at this
      exact this
    have hlO : (cs' (oE o)).length = bW_ (oH o) := by
      have := congrArg List.length obO.2.2.2.2.2.2.2.2
      rw [List.length_map] at this
      rw [this, h6]
    refine ⟨vp, vo, (cs' (oE o)).length + 1, ?_⟩
    rw [nI_clamp (n := p) (by omega)]
    refine sr_copy_120 (cs' (oE o)) (cs' p) _ _ mL2 (by omega) obN.2.2.2.2.2.2.2.1 obO.2.2.2.2.2.2.2.1 (zc_nd hm2.2.2.2 hn0) ?_ ?_ ?_ ?_
    · intro x hx hx2
      exact hneo (zc_one hm2.2.2.2 hnd hn0 hoin hx hx2)
    · intro x hx
      have := r_clt hm2.2.2.2 hn0 hx
      omega
    · intro x hx
      have := r_clt hm2.2.2.2 hoin hx
      omega
    · intro z1 z2 mL3 k1 k2'
      refine sr_valueOf ⟨gReg_in hk, ?_⟩
      rw [gReg_cl hk]
      rw [obO.2.2.2.2.2.2.2.2] at k1
      have hm3 := r_body (n := (p, G.2.2 + 1, oC o, oH o, oB o)) hnd hm2 rfl rfl rfl rfl k2' k1
      have hr' : zo_reach os' mR (oE o) := hall o ho'
      have hb := r_born (k := k) hE d1 d2 (fun o ho => (d3.1 o ho).2.1.2) hm3 rfl hpn h6 (fun v hv => zo_ok_kid d1 ho' hr' hv) hk.1 hh1 (fun q hq => by
        obtain ⟨x, hx, hxe⟩ := hh2 q hq
        rcases List.mem_append.mp hx with z | z
        · exact ⟨x, List.mem_append_left _ z, hxe⟩
        · rw [List.mem_singleton.mp z] at hxe
          exact ⟨_, List.mem_append_right _ (List.mem_singleton.mpr rfl), hxe⟩)
      have hao : zo_ao bxR os' (p, G.2.2 + 1, oC o, oH o, oB o) = G.2.1 i := by
        rw [← h2, ← d2.2 o ho' hr']
        rfl
      rw [hao] at hb
      exact h _ _ _ _ _ _ _ _ _ _ _ _ _ _ _ _ (fun _ => rfl) ⟨rfl, rfl, rfl, _, cs', fl2, hi2, rfl, hb.1⟩
  · obtain ⟨o, ho, h1, h2, h3, h4, h5, h6, h7⟩ := r_obj hE hc' hk2.1 hi'
    unfold g_w at hfit
    rw [ao_sh h4] at hfit
    refine sr_isReg_in hk ⟨fun z => absurd z (by decide), fun _ => sr_has_in hk2 h1 h7 ⟨fun z => absurd z (by decide), fun _ => ?_⟩⟩
    unfold wqR_copy_21
    refine ⟨fun z => absurd z (by decide), fun _ => sr_sizeOf hE hk2 h1 h5 (sr_hasBytes_in hE hk2 h1 h5 ?_)⟩
    refine sr_canMake hE hW (by omega) hr hc' h5.2.2.1 ?_ (fun q => absurd q hfit)
    intro _ mX' mT' mct' mtk'
    refine ⟨fun _ => ?_, fun z => absurd rfl z⟩
    unfold wqR_copy_55
    exact ⟨fun z => absurd z (by decide), fun _ => h _ _ _ _ _ _ _ _ _ _ _ _ _ _ _ _ (fun z => absurd z (by decide)) hc⟩
  · have hq := h 0 mR mI mC mY mZ mF (nI G'.2.2) (nI hi) mL mN mfr mX mT mct mtk (fun z => absurd z (by decide)) hc
    have bad : wqR_copy_19 (nI nW) (nI nE) a1 a2 mcd mR mI mC mY mZ mF (nI G'.2.2) (nI hi) mL mN mfr mX mT mct mtk pq := by
      unfold wqR_copy_19 wqR_copy_21 wqR_copy_55
      exact ⟨fun _ => ⟨fun z => absurd z (by decide), fun _ => hq⟩, fun z => absurd rfl z⟩
    by_cases q : ∃ k, gReg a1 k
    · obtain ⟨k, hk⟩ := id q
      exact sr_isReg_in hk ⟨fun z => absurd z (by decide), fun _ => sr_has_out hc'.1 hc'.2.1 (fun z => hn ⟨q, z⟩) ⟨fun _ => bad, fun z => absurd rfl z⟩⟩
    · exact sr_isReg_out q ⟨fun _ => bad, fun z => absurd rfl z⟩
theorem sr_chain_90 {mcd0 mctf mtkf : Int32} {mXf mTf : Nat → Int32} {k j n m d c0 : Nat} {pq : Int32 → Int32 → (Nat → Int32) → (Nat → Int32) → (Nat → Int32) → (Nat → Int32) → (Nat → Int32) → (Nat → Int32) → Int32 → Int32 → (Nat → Int32) → (Nat → Int32) → Int32 → (Nat → Int32) → (Nat → Int32) → Int32 → Int32 → Prop} {kx : Int32 → Int32 → (Nat → Int32) → (Nat → Int32) → (Nat → Int32) → (Nat → Int32) → (Nat → Int32) → (Nat → Int32) → Int32 → Int32 → (Nat → Int32) → (Nat → Int32) → Int32 → Prop}
    (hE : nE ≤ 8192) (hW : nW ≤ 65536) (hL : G.2.2 + 4001 < 2 ^ 31) (hk : gReg a1 k) (hj : gReg a2 j) (hn1 : 1 ≤ n) (hn2 : n ≤ 100) (hm : m ≤ 4000) (hc0 : c0 ≤ nE) (hdm : d ≤ m) (hfit : ∀ x, x < d → g_fits nW nE (g_it G k j n x) (4 + n)) (hend : d = m ∨ ¬ g_fits nW nE (g_it G k j n d) (4 + n))
    (hkx : ∀ z os cs fl hi mR mI mC mY mZ mF mL mN mfr, r_core nW nE os cs fl hi (g_it G k j n d) mR mI mC mY mZ mF mL mN mfr → kx z (nI d) mR mI mC mY mZ mF (nI (g_it G k j n d).2.2) (nI hi) mL mN mfr) :
    ∀ (q t : Nat) (os : List Ob_) (cs : Nat → List Nat) (fl : List Nat) (hi : Nat) (mR mI mC mY mZ mF mL mN : Nat → Int32) (mfr : Int32), t + q = m → t ≤ d → os.length = c0 + t → (zo_row os).length ≤ nW → r_core nW nE os cs fl hi (g_it G k j n t) mR mI mC mY mZ mF mL mN mfr → (∀ o ∈ os, zo_reach os mR (oE o)) →
      wqR_chain_90 mwd men a1 a2 (nI n) (nI m) (nI (nE - c0)) mcd0 mXf mTf mctf mtkf pq kx (q + 1) (nI (nW - (zo_row os).length)) (nI t) mR mI mC mY mZ mF (nI (g_it G k j n t).2.2) (nI hi) mL mN mfr := by
  have hb2 : bW_ (2 * n) = n := by rw [bW_even (by omega)]; omega
  intro q
  induction q with
  | zero =>
    intro t os cs fl hi mR mI mC mY mZ mF mL mN mfr ht htd _ _ hc _
    have : t = d := by omega
    subst this
    unfold wqR_chain_90
    refine ⟨fun _ => hkx _ _ _ _ _ _ _ _ _ _ _ _ _ _ hc, fun z => absurd (nI_le (by omega) (by omega)) z⟩
  | succ q ih =>
    intro t os cs fl hi mR mI mC mY mZ mF mL mN mfr ht htd hlen hrow hc hall
    have hLt := g_it_L G k j n t
    obtain ⟨c1, c2, c3, c4, c5⟩ := id hc
    obtain ⟨g1, g2⟩ := g_all_eq c1 c2 hall
    have hiff := g_fits_iff (nW := nW) (nE := nE) (w := 4 + n) g1
    rw [List.length_map, g2] at hiff
    have stop : ¬ g_fits nW nE (g_it G k j n t) (4 + n) → kx (nI (nW - (zo_row os).length)) (nI t) mR mI mC mY mZ mF (nI (g_it G k j n t).2.2) (nI hi) mL mN mfr := by
      intro hnf
      have : t = d := by
        rcases Nat.lt_or_ge t d with z | z
        · exact absurd (hfit t z) hnf
        · omega
      subst this
      exact hkx _ _ _ _ _ _ _ _ _ _ _ _ _ _ hc
    unfold wqR_chain_90
    rw [show (4 : Int32) + nI n = nI (4 + n) from zi_4' n]
    refine ⟨fun z => absurd z (nI_ge (by omega) (by omega)), fun _ => ⟨fun z => stop ?_, fun z => ⟨fun z2 => stop ?_, fun z2 => ?_⟩⟩⟩
    · rw [nI_leI (by omega) (by omega)] at z
      exact fun y => by have := hiff.mp y; omega
    · rw [nI_ltI (by omega) (by omega)] at z2
      exact fun y => by have := hiff.mp y; omega
    · rw [nI_leI (by omega) (by omega)] at z
      rw [nI_ltI (by omega) (by omega)] at z2
      have hf : g_fits nW nE (g_it G k j n t) (4 + n) := hiff.mpr ⟨by omega, by omega⟩
      have htd' : t < d := by
        rcases Nat.lt_or_ge t d with y | y
        · exact y
        · have : t = d := by omega
          subst this
          rcases hend with y' | y'
          · omega
          · exact absurd hf y'
      have hf' : g_fits nW nE (g_it G k j n t) (4 + bW_ (2 * n)) := by rw [hb2]; exact hf
      obtain ⟨f1, f2, f3⟩ := r_fits hc hall hf'
      refine ⟨gReg_in hj, ?_⟩
      rw [gReg_cl hj, gReg_cl hk]
      have hadd := sr_add (h := 2 * n) (v := mR j) (hi := hi) (post := fun r121 mI_121 mC_121 mY_121 mZ_121 mF_121 mmd_121 mhi_121 mL_121 mN_121 mfr_121 => vp_in r121 8192 ∧ (vp_in a1 32 ∧ (vp_in (mF_121 r121.toNatClampNeg) 65536 ∧ (wqR_valueOf r121 (fun r151 => vp_in a1 32 ∧ (wqR_chain_90 mwd men a1 a2 (nI n) (nI m) (nI (nE - c0)) mcd0 mXf mTf mctf mtkf pq kx (q + 1) ((nI (nW - (zo_row os).length) - 4) - nI n) (nI t + 1) (upd mR k r151) mI_121 mC_121 mY_121 mZ_121 mF_121 mmd_121 mhi_121 (upd mL_121 (mF_121 r121.toNatClampNeg).toNatClampNeg (mR k)) mN_121 mfr_121)))))) hE hW (L := (g_it G k j n t).2.2) (by omega) c1.1 c3 c5 f1 (by omega) f2 ?_
      · rw [(sh_even n).1, (sh_even n).2] at hadd
        exact hadd
      · intro p hi2 cs' fl2 mI2 mC2 mY2 mZ2 mF2 mL2 mN2 mfr2 hp hpn hm2 hh1 hh2 hcs hF _
        rw [hb2] at hm2 hh2
        have hn0 : ((p, (g_it G k j n t).2.2 + 1, mR j, 2 * n, List.replicate n 0) : Ob_) ∈ os ++ [((p, (g_it G k j n t).2.2 + 1, mR j, 2 * n, List.replicate n 0) : Ob_)] := by simp
        have hnd : ((os ++ [((p, (g_it G k j n t).2.2 + 1, mR j, 2 * n, List.replicate n 0) : Ob_)]).map oE).Nodup := by
          rw [List.map_append, List.nodup_append]
          refine ⟨c1.1, by simp, ?_⟩
          intro x hx y hy
          obtain ⟨u, hu, rfl⟩ := List.mem_map.mp hx
          have : y = p := by simpa using hy
          rw [this]
          exact hpn u hu
        have obN := hm2.1 _ hn0
        have hbody : (cs' p).map mL2 = List.replicate n 0 := obN.2.2.2.2.2.2.2.2
        have hch : zc_ch mN2 (mF2 p) (cs' p) := obN.2.2.2.2.2.2.2.1
        have hlN : (cs' p).length = n := by
          have := congrArg List.length hbody
          rw [List.length_map, List.length_replicate] at this
          exact this
        obtain ⟨y0, ys, hys⟩ : ∃ y0 ys, cs' p = y0 :: ys := by
          cases hq : cs' p with
          | nil => rw [hq] at hlN; simp at hlN; omega
          | cons y0 ys => exact ⟨y0, ys, rfl⟩
        have hF0 : mF2 p = nI y0 := by
          rw [hys] at hch
          exact hch.1
        have hy0 : y0 < nW := r_clt hm2.2.2.2 hn0 (by show y0 ∈ cs' p; rw [hys]; exact List.mem_cons_self)
        rw [nI_clamp (n := p) (by omega), hF0, nI_clamp (n := y0) (by omega)]
        refine ⟨vp_in_nI (by omega) (by omega), gReg_in hk, vp_in_nI (by omega) (by omega), sr_valueOf ⟨gReg_in hk, ?_⟩⟩
        have hm3 := r_body (n := (p, (g_it G k j n t).2.2 + 1, mR j, 2 * n, (List.replicate n 0).set 0 (mR k))) (mL' := upd mL2 y0 (mR k)) hnd hm2 rfl rfl rfl rfl (fun x hx => pk_un (fun (e : x = y0) => hx (by show x ∈ cs' p; rw [hys, e]; exact List.mem_cons_self))) (by
          show (cs' p).map (upd mL2 y0 (mR k)) = (List.replicate n 0).set 0 (mR k)
          rw [map_upd_in (cs' p) 0 y0 (zc_nd hm2.2.2.2 hn0) (by rw [hys]; rfl), hbody])
        have hsl : zo_slots (p, (g_it G k j n t).2.2 + 1, mR j, 2 * n, (List.replicate n 0).set 0 (mR k)) = (List.replicate n 0).set 0 (mR k) := sl_of (o := (p, (g_it G k j n t).2.2 + 1, mR j, 2 * n, (List.replicate n 0).set 0 (mR k))) (by show 2 * n % 2 = 0; omega)
        have hkid : ∀ v ∈ zo_kids (p, (g_it G k j n t).2.2 + 1, mR j, 2 * n, (List.replicate n 0).set 0 (mR k)), zo_ok os mR v := by
          intro v hv
          unfold zo_kids at hv
          rw [hsl] at hv
          rcases List.mem_cons.mp hv with y | y
          · rw [y]; exact zo_ok_reg c1 hj.1
          · rcases List.mem_or_eq_of_mem_set y with y | y
            · rw [List.eq_of_mem_replicate y]; exact zo_ok_n (Or.inl rfl)
            · rw [y]; exact zo_ok_reg c1 hk.1
        have hb := r_born (k := k) hE c1 c2 (fun o ho => (c3.1 o ho).2.1.2) hm3 rfl hpn (by show ((List.replicate n (0 : Int32)).set 0 (mR k)).length = bW_ (2 * n); rw [hb2]; simp) hkid hk.1 hh1 (fun x hx => by
          obtain ⟨u, hu, hue⟩ := hh2 x hx
          rcases List.mem_append.mp hu with y | y
          · exact ⟨u, List.mem_append_left _ y, hue⟩
          · rw [List.mem_singleton.mp y] at hue
            exact ⟨_, List.mem_append_right _ (List.mem_singleton.mpr rfl), hue⟩)
        have hall2 := hb.2 hall (fun e he => ⟨mR k, by
          unfold zo_kids
          rw [hsl]
          refine List.mem_cons_of_mem _ (List.mem_of_getElem? (i := 0) ?_)
          rw [List.getElem?_set_self (by simp; omega)], he⟩)
        have hao : zo_ao bxR os (p, (g_it G k j n t).2.2 + 1, mR j, 2 * n, (List.replicate n 0).set 0 (mR k)) = ((g_it G k j n t).1 j, 2 * n, (g_it G k j n t).1 k :: List.replicate (n - 1) (.inl 0), []) := by
          unfold zo_ao
          rw [hsl, if_neg (by show ¬ 2 * n % 2 = 1; omega)]
          obtain ⟨n', rfl⟩ : ∃ n', n = n' + 1 := ⟨n - 1, by omega⟩
          show (zv_ os (mR j), 2 * (n' + 1), (mR k :: List.replicate n' 0).map (zv_ os), []) = _
          rw [c2.1 j hj.1, List.map_cons, c2.1 k hk.1, List.map_replicate, zv_n (Or.inl rfl)]
          rfl
        have hbc := hb.1
        rw [hao] at hbc
        have hrow2 : (zo_row (os ++ [((p, (g_it G k j n t).2.2 + 1, mR j, 2 * n, (List.replicate n 0).set 0 (mR k)) : Ob_)])).length = (zo_row os).length + (4 + n) := by
          rw [zo_row_snoc, List.length_append, zo_flat_len]
          show _ + (4 + ((List.replicate n (0 : Int32)).set 0 (mR k)).length) = _
          simp
        have hx5 : (nI (nW - (zo_row os).length) - 4) - nI n = nI (nW - (zo_row (os ++ [((p, (g_it G k j n t).2.2 + 1, mR j, 2 * n, (List.replicate n 0).set 0 (mR k)) : Ob_)])).length) := by
          rw [hrow2, show (4 : Int32) = nI 4 from rfl, pk_sub (by omega), pk_sub (by omega)]
          congr 1
          omega
        rw [hx5, zi_1]
        exact ih (t + 1) _ cs' fl2 hi2 _ _ _ _ _ _ _ _ _ (by omega) (by omega) (by simp; omega) (by rw [hrow2]; omega) hbc hall2
theorem rR_chain {pq : Int32 → Int32 → (Nat → Int32) → (Nat → Int32) → (Nat → Int32) → (Nat → Int32) → (Nat → Int32) → (Nat → Int32) → Int32 → Int32 → (Nat → Int32) → (Nat → Int32) → Int32 → (Nat → Int32) → (Nat → Int32) → Int32 → Int32 → Prop} (hE : nE ≤ 8192) (hW : nW ≤ 65536) (hL : G.2.2 + 4001 < 2 ^ 31) (hr : g_room nW nE G) (hc : r_rep nW nE G mwd men mR mI mC mY mZ mF mmd mhi mL mN mfr) (hA : A_chain nW nE G a1 a2 a3 a4 c o_ G')
    (h : ∀ b mR' mI' mC' mY' mZ' mF' mmd' mhi' mL' mN' mfr' mX' mT' mct' mtk', (c = 0 → b = o_) → r_rep nW nE G' mwd men mR' mI' mC' mY' mZ' mF' mmd' mhi' mL' mN' mfr' → pq b c mR' mI' mC' mY' mZ' mF' mmd' mhi' mL' mN' mfr' mX' mT' mct' mtk') :
    wqR_chain mcd mwd men mR mI mC mY mZ mF mmd mhi mL mN mfr mX mT mct mtk a1 a2 a3 a4 pq := by
  obtain ⟨rfl, rfl, rfl, os, cs, fl, hi, rfl, hc'⟩ := id hc
  unfold wqR_chain
  rcases hA with ⟨k, j, n, m, d, ⟨hk, hj, rfl, hn1, hn2, rfl, hm1, hm2⟩, hdm, hfit, hend, rfl, rfl, rfl⟩ | ⟨hn, rfl, rfl⟩
  · refine sr_isReg_in hk ⟨fun z => absurd z (by decide), fun _ => sr_isReg_in hj ⟨fun z => absurd z (by decide), fun _ => ⟨fun z => absurd z (nI_nlt (b := 1) hm1 (by omega)), fun _ => ⟨fun z => absurd z (nI_nlt (a := 4000) hm2 (by omega)), fun _ => ⟨fun z => absurd z (nI_nlt (b := 1) hn1 (by omega)), fun _ => ⟨fun z => absurd z (nI_nlt (a := 100) hn2 (by omega)), fun _ => ?_⟩⟩⟩⟩⟩⟩
    unfold wqR_chain_48
    refine ⟨fun _ => ?_, fun z => absurd (by decide) z⟩
    refine sr_reach hE hW hc' ?_
    intro rl mX' mT' hM h1 h2
    obtain ⟨g1, g2⟩ := r_all hc'.1 hc'.2.1 hM.2.2.1 h1 h2
    have hlen : rl.length ≤ nE := zo_pigeon nE rl hM.2.2.1 hM.2.2.2.1
    obtain ⟨l', hl', r1, r2⟩ := hr
    rw [g_all_sum hl' g1, g2] at r2
    refine sr_giveBack hE hW (by omega) hc' hM h1 ?_
    intro mI' mN' mfr' fl' hc2 hall
    obtain ⟨e1, e2⟩ := g_all_eq hc2.1 hc2.2.1 hall
    have hlen2 : (os.filter (zo_in rl)).length = rl.length := by
      have := g_all_len e1 g1
      rw [List.length_map, List.length_map] at this
      exact this
    have hrow2 : (zo_row (os.filter (zo_in rl))).length = (rl.map (zo_wt os)).sum := by
      rw [← e2, g_all_sum e1 g1, g2]
    refine ⟨m + 1, ?_⟩
    rw [pk_sub hlen, pk_sub r2, ← hrow2]
    refine sr_chain_90 (d := d) (c0 := rl.length) hE hW hL hk hj hn1 hn2 hm2 hlen hdm hfit hend ?_ m 0 (os.filter (zo_in rl)) cs fl' 0 mR mI' mC mY mZ mF mL mN' mfr' (by omega) (by omega) (by omega) (by omega) hc2 hall
    intro z os2 cs2 fl2 hi2 mR2 mI2 mC2 mY2 mZ2 mF2 mL2 mN2 mfr2 hc3
    exact h _ _ _ _ _ _ _ _ _ _ _ _ _ _ _ _ (fun _ => rfl) ⟨rfl, rfl, rfl, os2, cs2, fl2, hi2, rfl, hc3⟩
  · have hq := h 0 mR mI mC mY mZ mF (nI G'.2.2) (nI hi) mL mN mfr mX mT mct mtk (fun z => absurd z (by decide)) hc
    have bad : wqR_chain_48 (nI nW) (nI nE) a1 a2 a3 a4 1 mR mI mC mY mZ mF (nI G'.2.2) (nI hi) mL mN mfr mX mT mct mtk pq := ⟨fun z => absurd z (by decide), fun _ => hq⟩
    by_cases q : ∃ k, gReg a1 k
    · obtain ⟨k, hk⟩ := id q
      refine sr_isReg_in hk ⟨fun z => absurd z (by decide), fun _ => ?_⟩
      by_cases q2 : ∃ j, gReg a2 j
      · obtain ⟨j, hj⟩ := id q2
        refine sr_isReg_in hj ⟨fun z => absurd z (by decide), fun _ => ⟨fun _ => bad, fun z1 => ⟨fun _ => bad, fun z2 => ⟨fun _ => bad, fun z3 => ⟨fun _ => bad, fun z4 => ?_⟩⟩⟩⟩⟩
        rw [Int32.lt_iff_toInt_lt] at z1 z2 z3 z4
        have i1 : (1 : Int32).toInt = 1 := rfl
        have i2 : (4000 : Int32).toInt = 4000 := rfl
        have i3 : (100 : Int32).toInt = 100 := rfl
        obtain ⟨m, m1, rfl⟩ := (nI_ex (a := a4) (N := 4000) (by omega)).mpr ⟨by omega, by omega⟩
        obtain ⟨n, n1, rfl⟩ := (nI_ex (a := a3) (N := 100) (by omega)).mpr ⟨by omega, by omega⟩
        rw [nI_toInt (by omega)] at z1 z3
        exact absurd ⟨k, j, n, m, hk, hj, rfl, by omega, n1, rfl, by omega, m1⟩ hn
      · exact sr_isReg_out q2 ⟨fun _ => bad, fun z => absurd rfl z⟩
    · exact sr_isReg_out q ⟨fun _ => bad, fun z => absurd rfl z⟩
end RH

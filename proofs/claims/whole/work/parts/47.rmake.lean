/-! the reference's make, copy, chain -/
section RG
variable {nW nE L hi : Nat} {os : List Ob_} {cs : Nat → List Nat} {fl : List Nat} {G G' : G_} {mR mI mC mY mZ mF mL mN mX mT : Nat → Int32} {mfr mcd mwd men mmd mhi mct mtk : Int32} {a b a1 a2 a3 a4 c o_ : Int32}
theorem zc_len (h : ∀ o ∈ os, r_ob nE L cs mI mC mY mZ mF mL mN o) : (zc_all os cs).length ≤ (zo_row os).length := by
  induction os with
  | nil => simp [zc_all]
  | cons o os ih =>
    rw [zc_cons]
    show (cs (oE o) ++ zc_all os cs).length ≤ (zo_flat o ++ zo_row os).length
    rw [List.length_append, List.length_append, zo_flat_len]
    have h1 := ih (fun x hx => h x (List.mem_cons_of_mem _ hx))
    have h2 := (h o List.mem_cons_self).2.2.2.2.2.2.2.2
    have h3 : (cs (oE o)).length = (oB o).length := by rw [← h2, List.length_map]
    omega
theorem r_fits {h : Nat} (hc : r_core nW nE os cs fl hi G mR mI mC mY mZ mF mL mN mfr) (hall : ∀ o ∈ os, zo_reach os mR (oE o)) (hf : g_fits nW nE G (4 + bW_ h)) : os.length < nE ∧ bW_ h ≤ fl.length ∧ (zo_row os).length + (4 + bW_ h) ≤ nW := by
  obtain ⟨c1, c2, c3, c4⟩ := hc
  obtain ⟨g1, g2⟩ := g_all_eq c1 c2 hall
  have h1 := (g_fits_iff g1).mp hf
  rw [List.length_map, g2] at h1
  have h2 := c3.2.2.2.length_eq
  rw [List.length_append, List.length_range] at h2
  have h3 := zc_len c3.1
  exact ⟨h1.1, by omega, h1.2⟩
theorem r_born {k hi' : Nat} {n : Ob_} {cs' : Nat → List Nat} {fl' : List Nat} {mI' mC' mY' mZ' mF' mL' mN' : Nat → Int32} {mfr' : Int32} (hE : nE ≤ 8192) (hw : zo_wf os mR) (ha : zo_abs bxR os mR G.1 G.2.1) (hL : ∀ o ∈ os, oI o ≤ G.2.2) (hm : r_mem nW nE (G.2.2 + 1) (os ++ [n]) cs' fl' mI' mC' mY' mZ' mF' mL' mN' mfr') (hn : oI n = G.2.2 + 1) (hne : ∀ x ∈ os, oE x ≠ oE n) (hb : (oB n).length = bW_ (oH n)) (hkid : ∀ v ∈ zo_kids n, zo_ok os mR v) (hk : k < 32) (hh1 : hi' ≤ nE) (hh2 : ∀ q, q < hi' → ∃ o ∈ os ++ [n], oE o = q) :
    r_core nW nE (os ++ [n]) cs' fl' hi' (gM_ G k (zo_ao bxR os n)) (upd mR k (ov_ (oE n))) mI' mC' mY' mZ' mF' mL' mN' mfr' ∧ ((∀ o ∈ os, zo_reach os mR (oE o)) → (∀ e, zo_dec (mR k) = some e → ∃ v ∈ zo_kids n, zo_dec v = some e) → ∀ o ∈ os ++ [n], zo_reach (os ++ [n]) (upd mR k (ov_ (oE n))) (oE o)) := by
  have hob := hm.1 n (by simp)
  have h8 : oE n < 8192 := by have := hob.1; omega
  obtain ⟨b1, b2, b3⟩ := zo_born hw ha hk h8 hne (fun x hx => by have := hL x hx; omega) hb hkid
  rw [hn] at b2
  refine ⟨⟨b1, b2, hm, hh1, hh2⟩, fun hall hkk => ?_⟩
  have hroot : zo_reach (os ++ [n]) (upd mR k (ov_ (oE n))) (oE n) := zo_reach_root hk (by rw [pk_us, zo_dec_ov h8])
  have hup : ∀ e, zo_reach os mR e → zo_reach (os ++ [n]) (upd mR k (ov_ (oE n))) e := by
    intro e he
    refine he (fun e => zo_reach (os ++ [n]) (upd mR k (ov_ (oE n))) e) ?_ ?_
    · intro r hr e' hd
      by_cases q : r = k
      · subst q
        obtain ⟨v, hv, hd'⟩ := hkk e' hd
        exact zo_reach_kid (by simp) hroot hv hd'
      · exact zo_reach_root hr (by rw [pk_un q]; exact hd)
    · intro o ho hro v hv e' hd
      exact zo_reach_kid (List.mem_append_left _ ho) hro hv hd
  intro o ho
  rcases List.mem_append.mp ho with q | q
  · exact hup _ (hall o q)
  · rw [List.mem_singleton.mp q]
    exact hroot
/-- the new object's cells are written -/
theorem r_body {n0 n : Ob_} {mL' : Nat → Int32} (hnd : ((os ++ [n0]).map oE).Nodup) (hm : r_mem nW nE L (os ++ [n0]) cs fl mI mC mY mZ mF mL mN mfr) (e1 : oE n = oE n0) (e2 : oI n = oI n0) (e3 : oC n = oC n0) (e4 : oH n = oH n0) (h1 : ∀ x, x ∉ cs (oE n0) → mL' x = mL x) (h2 : (cs (oE n0)).map mL' = oB n) :
    r_mem nW nE L (os ++ [n]) cs fl mI mC mY mZ mF mL' mN mfr := by
  obtain ⟨m1, m2, m3, m4⟩ := hm
  have hn0 : n0 ∈ os ++ [n0] := by simp
  have hne : ∀ x ∈ os, x ≠ n0 := by
    intro x hx e
    rw [List.map_append, List.nodup_append] at hnd
    exact hnd.2.2 (oE x) (List.mem_map_of_mem hx) (oE n0) (by simp) (by rw [e])
  refine ⟨?_, ?_, m3, ?_⟩
  · intro x hx
    rcases List.mem_append.mp hx with q | q
    · obtain ⟨q1, q2, q3, q4, q5, q6, q7, q8, q9⟩ := m1 x (List.mem_append_left _ q)
      refine ⟨q1, q2, q3, q4, q5, q6, q7, q8, ?_⟩
      rw [← q9]
      exact List.map_congr_left (fun y hy => h1 y (fun z => hne x q (zc_one m4 hnd (List.mem_append_left _ q) hn0 hy z)))
    · rw [List.mem_singleton.mp q]
      obtain ⟨q1, q2, q3, q4, q5, q6, q7, q8, q9⟩ := m1 n0 hn0
      exact ⟨by rw [e1]; exact q1, by rw [e2]; exact q2, by rw [e4]; exact q3, by rw [e1, e2]; exact q4, by rw [e1, e3]; exact q5, by rw [e1, e4]; exact q6, by rw [e1, e4]; exact q7, by rw [e1]; exact q8, by rw [e1]; exact h2⟩
  · intro p hp hno
    refine m2 p hp (fun x hx => ?_)
    rcases List.mem_append.mp hx with q | q
    · exact hno x (List.mem_append_left _ q)
    · rw [List.mem_singleton.mp q, ← e1]
      exact hno n (by simp)
  · have : zc_all (os ++ [n]) cs = zc_all (os ++ [n0]) cs := by rw [zc_app, zc_app, zc_cons, zc_cons, e1]
    rw [this]
    exact m4
theorem sr_canMake {h : Nat} {post : Int32 → (Nat → Int32) → Int32 → (Nat → Int32) → Int32 → (Nat → Int32) → (Nat → Int32) → Int32 → Int32 → Prop} (hE : nE ≤ 8192) (hW : nW ≤ 65536) (hL : G.2.2 < 2 ^ 31) (hr : g_room nW nE G) (hc : r_core nW nE os cs fl hi G mR mI mC mY mZ mF mL mN mfr) (hh : h ≤ 32001)
    (hno : ¬ g_fits nW nE G (4 + bW_ h) → ∀ mX' mT' mct' mtk', post 0 mI (nI hi) mN mfr mX' mT' mct' mtk')
    (hok : g_fits nW nE G (4 + bW_ h) → ∀ os' fl' mI' mN' mfr' mX' mT' mct' mtk', r_core nW nE os' cs fl' 0 G mR mI' mC mY mZ mF mL mN' mfr' → (∀ o ∈ os', zo_reach os' mR (oE o)) → (∀ o ∈ os, zo_reach os mR (oE o) → o ∈ os') → post 1 mI' 0 mN' mfr' mX' mT' mct' mtk') :
    wqR_canMake (nI nW) (nI nE) mR mI mC mY mZ mF (nI hi) mL mN mfr mX mT mct mtk (nI (h / 2)) (nI (h % 2)) post := by
  have hb := bW_le hh
  unfold wqR_canMake
  refine sr_reach hE hW hc ?_
  intro rl mX' mT' hM h1 h2
  obtain ⟨g1, g2⟩ := r_all hc.1 hc.2.1 hM.2.2.1 h1 h2
  have hlen : rl.length ≤ nE := zo_pigeon nE rl hM.2.2.1 hM.2.2.2.1
  obtain ⟨l', hl', r1, r2⟩ := hr
  rw [g_all_sum hl' g1, g2] at r2
  have hiff := g_fits_iff (nW := nW) (nE := nE) (w := 4 + bW_ h) g1
  rw [List.length_map, g2] at hiff
  have bad : ¬ g_fits nW nE G (4 + bW_ h) → wqR_canMake_38 (nI nW) (nI nE) mR mC mY mZ mF mL (nI (h / 2)) (nI (h % 2)) mI (nI hi) mN mfr mX' mT' (nI rl.length) (nI ((rl.map (zo_wt os)).sum)) post := by
    intro q
    unfold wqR_canMake_38 wqR_canMake_40
    exact ⟨fun _ => ⟨by decide, hno q _ _ _ _⟩, fun z => absurd rfl z⟩
  refine sr_cellsFor (by omega) ?_
  rw [zi_4, nI_add]
  refine ⟨fun z => bad ?_, fun z => ⟨fun z2 => bad ?_, fun z2 => ?_⟩⟩
  · rw [nI_ltI (by omega) (by omega)] at z
    exact fun q => by have := hiff.mp q; omega
  · rw [nI_leI (by omega) (by omega)] at z2
    exact fun q => by have := hiff.mp q; omega
  · rw [nI_ltI (by omega) (by omega)] at z
    rw [nI_leI (by omega) (by omega)] at z2
    have hf := hiff.mpr ⟨by omega, by omega⟩
    unfold wqR_canMake_40
    refine ⟨fun q => absurd q (by decide), fun _ => sr_giveBack hE hW hL hc hM h1 ?_⟩
    intro mI' mN' mfr' fl' hc' hall
    refine ⟨by decide, hok hf _ fl' mI' mN' mfr' _ _ _ _ hc' hall ?_⟩
    intro o ho hro
    refine List.mem_filter.mpr ⟨ho, ?_⟩
    unfold zo_in
    exact decide_eq_true ((h1 _).mpr hro)
theorem sh_odd (n : Nat) : (2 * n + 1) / 2 = n ∧ (2 * n + 1) % 2 = 1 := by omega
theorem sh_even (n : Nat) : 2 * n / 2 = n ∧ 2 * n % 2 = 0 := by omega
theorem rR_make {pq : Int32 → Int32 → (Nat → Int32) → (Nat → Int32) → (Nat → Int32) → (Nat → Int32) → (Nat → Int32) → (Nat → Int32) → Int32 → Int32 → (Nat → Int32) → (Nat → Int32) → Int32 → (Nat → Int32) → (Nat → Int32) → Int32 → Int32 → Prop} (hE : nE ≤ 8192) (hW : nW ≤ 65536) (hL : G.2.2 + 1 < 2 ^ 31) (hr : g_room nW nE G) (hc : r_rep nW nE G mwd men mR mI mC mY mZ mF mmd mhi mL mN mfr) (hA : A_make nW nE G a1 a2 a3 a4 c o_ G')
    (h : ∀ b mR' mI' mC' mY' mZ' mF' mmd' mhi' mL' mN' mfr' mX' mT' mct' mtk', (c = 0 → b = o_) → r_rep nW nE G' mwd men mR' mI' mC' mY' mZ' mF' mmd' mhi' mL' mN' mfr' → pq b c mR' mI' mC' mY' mZ' mF' mmd' mhi' mL' mN' mfr' mX' mT' mct' mtk') :
    wqR_make mcd mwd men mR mI mC mY mZ mF mmd mhi mL mN mfr mX mT mct mtk a1 a2 a3 a4 pq := by
  obtain ⟨rfl, rfl, rfl, os, cs, fl, hi, rfl, hc'⟩ := id hc
  have hgood : ∀ k j n, A_makeOk a1 a2 a3 a4 k j n → gSh n a4 ≤ 32001 ∧ gSh n a4 / 2 = n := by
    rintro k j n ⟨-, -, -, hn⟩
    unfold gSh
    split
    · rename_i q; rw [if_pos q] at hn; omega
    · rename_i q; rw [if_neg q] at hn; omega
  have hbit : ∀ n, (a4 = 0 → (1 : Int32) = nI (gSh n a4 % 2)) ∧ (¬ a4 = 0 → (0 : Int32) = nI (gSh n a4 % 2)) := by
    intro n
    unfold gSh
    refine ⟨fun q => ?_, fun q => ?_⟩
    · rw [if_pos q, (sh_odd n).2]; rfl
    · rw [if_neg q, (sh_even n).2]; rfl
  have enter : ∀ {k j n : Nat}, A_makeOk a1 a2 a3 a4 k j n → (∀ ob, ob = nI (gSh n a4 % 2) → wqR_canMake (nI nW) (nI nE) mR mI mC mY mZ mF (nI hi) mL mN mfr mX mT mct mtk (nI (gSh n a4 / 2)) ob (fun r65 mI_65 mhi_65 mN_65 mfr_65 mX_65 mT_65 mct_65 mtk_65 => (r65 = 0 → (wqR_make_79 (nI nW) (nI nE) a1 a2 a3 a4 1 2 mR mI_65 mC mY mZ mF (nI G.2.2) mhi_65 mL mN_65 mfr_65 mX_65 mT_65 mct_65 mtk_65 pq)) ∧ (¬ (r65 = 0) → (wqR_make_79 (nI nW) (nI nE) a1 a2 a3 a4 1 0 mR mI_65 mC mY mZ mF (nI G.2.2) mhi_65 mL mN_65 mfr_65 mX_65 mT_65 mct_65 mtk_65 pq)))) →
      wqR_make mcd (nI nW) (nI nE) mR mI mC mY mZ mF (nI G.2.2) (nI hi) mL mN mfr mX mT mct mtk a1 a2 a3 a4 pq := by
    intro k j n hok hcm
    have hg := hgood k j n hok
    obtain ⟨hk, hj, rfl, hn⟩ := hok
    rw [hg.2] at hcm
    have h36 : wqR_make_36 (nI nW) (nI nE) a1 a2 (nI n) a4 mcd mR mI mC mY mZ mF (nI G.2.2) (nI hi) mL mN mfr mX mT mct mtk pq := by
      unfold wqR_make_36 wqR_make_43
      exact ⟨fun z => absurd z (by decide), fun _ => ⟨fun z => hcm 1 ((hbit n).1 z), fun z => hcm 0 ((hbit n).2 z)⟩⟩
    unfold wqR_make
    refine sr_isReg_in hk ⟨fun z => absurd z (by decide), fun _ => sr_isReg_in hj ⟨fun z => absurd z (by decide), fun _ => ⟨fun z => absurd z (nI_pos ?_), fun _ => ⟨fun z => ⟨fun y => ?_, fun _ => h36⟩, fun z => ⟨fun y => ?_, fun _ => h36⟩⟩⟩⟩⟩
    · split at hn <;> omega
    · rw [if_pos z] at hn
      exact absurd y (nI_nlt (a := 16000) hn (by omega))
    · rw [if_neg z] at hn
      exact absurd y (nI_nlt (a := 4000) hn (by omega))
  rcases hA with ⟨k, j, n, hok, hfit, rfl, rfl, rfl⟩ | ⟨k, j, n, hok, hfit, rfl, rfl⟩ | ⟨hn, rfl, rfl⟩
  · have hg := hgood k j n hok
    refine enter hok ?_
    rintro ob rfl
    refine sr_canMake hE hW (by omega) hr hc' hg.1 (fun q => absurd hfit q) ?_
    intro _ os' fl' mI' mN' mfr' mX' mT' mct' mtk' hc2 hall _
    refine ⟨fun z => absurd z (by decide), fun _ => ?_⟩
    obtain ⟨hk, hj, rfl, hn⟩ := hok
    obtain ⟨f1, f2, f3⟩ := r_fits hc2 hall hfit
    obtain ⟨d1, d2, d3, d4, d5⟩ := id hc2
    have ad : ∀ ob, ob = nI (gSh n a4 % 2) → wqR_add mI' mC mY mZ mF (nI G.2.2) 0 mL mN' mfr' (mR j) (nI n) ob (fun r106 mI_106 mC_106 mY_106 mZ_106 mF_106 mmd_106 mhi_106 mL_106 mN_106 mfr_106 => wqR_make_111 (nI nW) (nI nE) a1 a2 (nI n) a4 1 r106 0 mR mI_106 mC_106 mY_106 mZ_106 mF_106 mmd_106 mhi_106 mL_106 mN_106 mfr_106 mX' mT' mct' mtk' pq) := by
      rintro ob rfl
      have hadd := sr_add (h := gSh n a4) (v := mR j) (hi := 0) (post := fun r106 mI_106 mC_106 mY_106 mZ_106 mF_106 mmd_106 mhi_106 mL_106 mN_106 mfr_106 => wqR_make_111 (nI nW) (nI nE) a1 a2 (nI n) a4 1 r106 0 mR mI_106 mC_106 mY_106 mZ_106 mF_106 mmd_106 mhi_106 mL_106 mN_106 mfr_106 mX' mT' mct' mtk' pq) hE hW hL d1.1 d3 (fun p hp => by omega) f1 hg.1 f2 ?_
      · rw [hg.2] at hadd
        exact hadd
      · intro p hi' cs' fl2 mI2 mC2 mY2 mZ2 mF2 mL2 mN2 mfr2 hp hpn hm2 hh1 hh2 _ _ _
        unfold wqR_make_111
        refine sr_valueOf ⟨gReg_in hk, ?_⟩
        rw [gReg_cl hk]
        have hb := r_born (k := k) hE d1 d2 (fun o ho => (d3.1 o ho).2.1.2) hm2 rfl hpn (by show (List.replicate (bW_ (gSh n a4)) (0 : Int32)).length = _; simp) (fun v hv => ?_) hk.1 hh1 hh2
        · have hao : zo_ao bxR os' (p, G.2.2 + 1, mR j, gSh n a4, List.replicate (bW_ (gSh n a4)) 0) = gNew (G.1 j) (gSh n a4) := by
            rw [zo_ao_new bxR_0 rfl, ← d2.1 j hj.1]
          rw [hao] at hb
          exact h _ _ _ _ _ _ _ _ _ _ _ _ _ _ _ _ (fun _ => rfl) ⟨rfl, rfl, rfl, _, cs', fl2, hi', rfl, hb.1⟩
        · rcases zo_kids_new (e := p) (L := G.2.2) (h := gSh n a4) (v := mR j) hv with q | q
          · rw [q]; exact zo_ok_reg d1 hj.1
          · rw [q]; exact zo_ok_n (Or.inl rfl)
    unfold wqR_make_79
    rw [gReg_cl hj]
    exact ⟨fun _ => ⟨gReg_in hj, fun z => ad 1 ((hbit n).1 z), fun z => ad 0 ((hbit n).2 z)⟩, fun z => absurd (by decide) z⟩
  · have hg := hgood k j n hok
    refine enter hok ?_
    rintro ob rfl
    refine sr_canMake hE hW (by omega) hr hc' hg.1 ?_ (fun q => absurd q hfit)
    intro _ mX' mT' mct' mtk'
    refine ⟨fun _ => ?_, fun z => absurd rfl z⟩
    unfold wqR_make_79
    exact ⟨fun z => absurd z (by decide), fun _ => h _ _ _ _ _ _ _ _ _ _ _ _ _ _ _ _ (fun z => absurd z (by decide)) hc⟩
  · have hq := h 0 mR mI mC mY mZ mF (nI G'.2.2) (nI hi) mL mN mfr mX mT mct mtk (fun z => absurd z (by decide)) hc
    have bad : wqR_make_40 (nI nW) (nI nE) a1 a2 a3 a4 mcd mR mI mC mY mZ mF (nI G'.2.2) (nI hi) mL mN mfr mX mT mct mtk pq := by
      unfold wqR_make_40 wqR_make_43 wqR_make_79
      exact ⟨fun _ => ⟨fun z => absurd z (by decide), fun _ => hq⟩, fun z => absurd rfl z⟩
    unfold wqR_make
    by_cases q : ∃ k, gReg a1 k
    · obtain ⟨k, hk⟩ := id q
      refine sr_isReg_in hk ⟨fun z => absurd z (by decide), fun _ => ?_⟩
      by_cases q2 : ∃ j, gReg a2 j
      · obtain ⟨j, hj⟩ := id q2
        refine sr_isReg_in hj ⟨fun z => absurd z (by decide), fun _ => ⟨fun _ => bad, fun z0 => ?_⟩⟩
        obtain ⟨n, hn1, rfl⟩ := nI_of z0
        refine ⟨fun z => ⟨fun _ => bad, fun y => ?_⟩, fun z => ⟨fun _ => bad, fun y => ?_⟩⟩
        · rw [show (16000 : Int32) = nI 16000 from rfl, nI_ltI (by omega) (by omega)] at y
          exact absurd ⟨k, j, n, hk, hj, rfl, by rw [if_pos z]; omega⟩ hn
        · rw [show (4000 : Int32) = nI 4000 from rfl, nI_ltI (by omega) (by omega)] at y
          exact absurd ⟨k, j, n, hk, hj, rfl, by rw [if_neg z]; omega⟩ hn
      · exact sr_isReg_out q2 ⟨fun _ => bad, fun z => absurd rfl z⟩
    · exact sr_isReg_out q ⟨fun _ => bad, fun z => absurd rfl z⟩
end RG

/-! the class's copy and chain -/
section CK
variable {nW nE D K : Nat} {os : List Ob_} {sl : List Nat} {G G' : G_} {R f P S ro rc : Nat → Int32} {us sc li rd st rn : Int32} {a b a1 a2 a3 a4 c o_ w : Int32} {ot : Nat → Int64}
theorem c_finish {k : Nat} {n : Ob_} {post : (Nat → Int32) → Int32 → Int32 → Prop} (hE : nE ≤ 8192) (hW : nW ≤ 65536) (hw : zo_wf os R) (ha : zo_abs bxC os R G.1 G.2.1) (hL : ∀ o ∈ os, oI o ≤ G.2.2) (hI : zo_inv nW nE (os ++ [n]) sl (G.2.2 + 1) D R f P S ro) (hn : oI n = G.2.2 + 1) (hk : gReg a k) (hkid : ∀ v ∈ zo_kids n, zo_ok os R v)
    (hst : st = 0 ∨ st = 1 ∧ ∀ o ∈ os, zo_reach os R (oE o)) (h : ∀ st1, c_core nW nE (os ++ [n]) sl D (gM_ G k (zo_ao bxC os n)) (upd R k (ov_ (oE n))) f P S ro st1 → post (upd R k (ov_ (oE n))) st1 (nI (G.2.2 + 1))) :
    wqT_setRegister nW nE R st a (ov_ (oE n)) (fun R1 st1 => wqM_identity nW nE f P (ov_ (oE n)) (fun r => post R1 st1 r)) := by
  unfold wqT_setRegister
  rw [gReg_cl hk]
  refine ⟨gReg_in hk, ?_⟩
  have hob := zo_last hE hW hI
  have fin : ∀ st1, (st1 = 0 ∨ st1 = 1 ∧ (∀ o ∈ os, zo_reach os R (oE o)) ∧ zo_dec (R k) = none) → wqM_identity nW nE f P (ov_ (oE n)) (fun r => post (upd R k (ov_ (oE n))) st1 r) := by
    intro st1 hst1
    refine sp_identity hob ?_
    rw [hn]
    refine h st1 (c_born (k := k) (st1 := st1) hE hw ha hL hI hn hk.1 hkid ?_)
    rcases hst1 with q | ⟨q, q2, q3⟩
    · exact Or.inl q
    · exact Or.inr ⟨q, q2, fun e' hd => by rw [q3] at hd; cases hd⟩
  refine sp_letGo ((hw.2.2.2.1 k hk.1).V8 hw.2.1) (fun _ => ⟨gReg_in hk, fin 0 (Or.inl rfl)⟩) (fun z => ⟨gReg_in hk, fin st ?_⟩)
  rcases hst with q | ⟨q, q2⟩
  · exact Or.inl q
  · exact Or.inr ⟨q, q2, z⟩
theorem zo_is_sub {f : Nat → Int32} {x y : List Int32} {p : Nat} (h : zo_is f (x ++ y) p) : zo_is f x p := (zo_is_app.mp h).1
theorem cL_copy {pq : Int32 → (Nat → Int32) → (Nat → Int32) → Int32 → (Nat → Int32) → (Nat → Int32) → Int32 → Int32 → (Nat → Int32) → Int32 → (Nat → Int32) → Int32 → Int32 → (Nat → Int64) → Prop} (hE : nE ≤ 8192) (hW : nW ≤ 65536) (hK : K + 1 < 2 ^ 31) (hc : c_rep nW nE K G R f us P S sc li ro rd st) (hA : A_copy nW nE G a1 a2 c o_ G')
    (h : ∀ R' f' us' P' S' sc' li' rc' rn' ro' rd' st' ot', (c = 0 → ot' 0 = o_.toInt64) → c_rep nW nE (K + 1) G' R' f' us' P' S' sc' li' ro' rd' st' → pq c R' f' us' P' S' sc' li' rc' rn' ro' rd' st' ot') :
    wqL_copy nW nE R f us P S sc li rc rn ro rd st ot a1 a2 pq := by
  unfold wqL_copy wqT_copy
  rcases hA with ⟨k, i, hk, ⟨k2, hk2, hi⟩, hfit, rfl, rfl, rfl⟩ | ⟨k, i, hk, ⟨k2, hk2, hi⟩, hfit, rfl, rfl⟩ | ⟨hn, rfl, rfl⟩
  · obtain ⟨os, sl, D, rfl, rfl, rfl, rfl, e5, e6, hc'⟩ := id hc
    have hw := hc'.wf hE
    obtain ⟨pre, o, po, hos, h1, h2, h3, h4, h5, h6, h7, h8⟩ := c_obj hE hW hc' hk2.1 hi
    have hom : o ∈ os := by rw [hos]; simp
    refine sp_needReg_in hk (sp_needObj_in hk2 h1 (by omega) ⟨gReg_in hk2, ?_⟩)
    rw [gReg_cl hk2, h1]
    have q4 := h5.2.2.2.1
    refine sp_itsClass h5 (sp_shapeOf h5 ?_)
    unfold g_w at hfit
    rw [ao_sh h4] at hfit
    refine c_build (h := oH o) hE hW (by omega) (by omega) hc' (zo_ok_kid hw hom h3 List.mem_cons_self) h8 (fun q => absurd hfit q) ?_
    intro _ os' sl' D' e f' P' S' rc' rn' ro' st' hD' hsub hw' ha' hv' hL' hst' he hI
    unfold wqT_needMade
    refine ⟨fun z => absurd z (ov_ne0 (by omega)), fun _ => ?_⟩
    have hom' : o ∈ os' := hsub o hom h3
    have hr' : zo_reach os' R (oE o) := zo_reach_root hk2.1 (by rw [h1, zo_dec_ov (by omega)])
    obtain ⟨pr, po', hpp⟩ := zo_split hom'
    have hobn := zo_last hE hW hI
    have hobo : zo_ob nW nE f' P' (oE o) o (zo_row pr).length := by
      have hrep := hI.1
      rw [hpp, show pr ++ o :: po' ++ [zo_new e G.2.2 (oC o) (oH o)] = pr ++ o :: (po' ++ [zo_new e G.2.2 (oC o) (oH o)]) by simp] at hrep
      exact hrep.ob hE hW
    have hbn : (oB (zo_new e G.2.2 (oC o) (oH o))).length = bW_ (oH o) := by
      show (List.replicate (bW_ (oH o)) (0 : Int32)).length = _
      simp
    have q5 := hobo.2.2.2.1
    have q6 := hobn.2.2.2.1
    have hpos : (zo_row pr).length + (4 + (oB o).length) ≤ (zo_row os').length := by
      rw [hpp, zo_row_app, List.length_append, show zo_row (o :: po') = zo_flat o ++ zo_row po' from rfl, List.length_append, zo_flat_len]
      omega
    unfold wqM_fillLike
    refine sp_place hE hobo.1 (sp_place hE hobn.1 (sp_shapeOf hobo (sp_bodyWords (by omega) ?_)))
    rw [hobo.2.1, hobn.2.1, zi_4, zi_4]
    refine sp_copyWords hW (by omega) (by omega) ?_
    have hkid : ∀ v ∈ zo_kids (e, G.2.2 + 1, oC o, oH o, oB o), zo_ok os' R v := fun v hv => zo_ok_kid hw' hom' hr' hv
    have hm := inv_mod (o' := (e, G.2.2 + 1, oC o, oH o, oB o)) (f' := va_cpy f' f' ((zo_row pr).length + 4) ((zo_row os').length + 4) (bW_ (oH o))) hI rfl rfl rfl (by rw [hbn]; exact h7) ?_ (fun v hv => zo_Vo_mono (hkid v hv).1)
    · rw [← hm.2]
      refine c_finish (n := (e, G.2.2 + 1, oC o, oH o, oB o)) (post := fun R1 st1 r => vp_in (0 : Int32) 1 ∧ (pq (0 : Int32) R1 (va_cpy f' f' ((zo_row pr).length + 4) ((zo_row os').length + 4) (bW_ (oH o))) (nI (zo_row (os' ++ [(e, G.2.2 + 1, oC o, oH o, oB o)])).length) P' S' (nI sl'.length) (nI (G.2.2 + 1)) rc' rn' ro' (nI D') st1 (vp_updL ot (0 : Int32).toNatClampNeg r.toInt64))) hE hW hw' ha' hL' hm.1 rfl hk hkid hst' ?_
      intro st1 hcore
      have hao : zo_ao bxC os' (e, G.2.2 + 1, oC o, oH o, oB o) = G.2.1 i := by
        rw [← h2, ← ha'.2 o hom' hr']
        rfl
      rw [hao] at hcore
      refine ⟨vp01, h _ _ _ _ _ _ _ _ _ _ _ _ _ (fun _ => ot_) ⟨_, sl', D', rfl, rfl, rfl, rfl, ?_, by omega, hcore⟩⟩
      show G.2.2 + 1 ≤ K + 1
      omega
    · have hr1 := hI.1.1
      rw [zo_row_snoc] at hr1 ⊢
      rw [zo_is_app] at hr1 ⊢
      rw [Nat.zero_add] at hr1 ⊢
      refine ⟨zo_cpy_lo hr1.1 (by omega), ?_⟩
      have hfl : zo_flat (e, G.2.2 + 1, oC o, oH o, oB o) = [nI e, nI (G.2.2 + 1), oC o, nI (oH o)] ++ oB o := rfl
      have hfl2 : zo_flat (zo_new e G.2.2 (oC o) (oH o)) = [nI e, nI (G.2.2 + 1), oC o, nI (oH o)] ++ List.replicate (bW_ (oH o)) 0 := rfl
      rw [hfl, zo_is_app]
      have hr2 := hr1.2
      rw [hfl2] at hr2
      refine ⟨zo_cpy_lo (zo_is_sub hr2) (by show (zo_row os').length + 4 ≤ _; omega), ?_⟩
      refine zo_cpy_is (fun t z hz => ?_) h7
      exact hobo.bd hz
  · obtain ⟨os, sl, D, rfl, rfl, rfl, rfl, e5, e6, hc'⟩ := id hc
    have hw := hc'.wf hE
    obtain ⟨pre, o, po, hos, h1, h2, h3, h4, h5, h6, h7, h8⟩ := c_obj hE hW hc' hk2.1 hi
    have hom : o ∈ os := by rw [hos]; simp
    refine sp_needReg_in hk (sp_needObj_in hk2 h1 (by omega) ⟨gReg_in hk2, ?_⟩)
    rw [gReg_cl hk2, h1]
    have q4 := h5.2.2.2.1
    refine sp_itsClass h5 (sp_shapeOf h5 ?_)
    unfold g_w at hfit
    rw [ao_sh h4] at hfit
    refine c_build (h := oH o) hE hW (by omega) (by omega) hc' (zo_ok_kid hw hom h3 List.mem_cons_self) h8 ?_ (fun q => absurd q hfit)
    intro _ os' sl' D' f' P' S' rc' rn' ro' st' hD' hc2
    unfold wqT_needMade
    exact ⟨fun _ => Or.inr ⟨rfl, h _ _ _ _ _ _ _ _ _ _ _ _ _ (fun z => absurd z (by decide)) ⟨os', sl', D', rfl, rfl, rfl, rfl, by omega, by omega, hc2⟩⟩, fun z => absurd rfl z⟩
  · obtain ⟨os, sl, D, _, _, _, _, e5, e6, hc'⟩ := id hc
    have hfin := h R f us P S sc li rc rn ro rd st ot (fun z => absurd z (by decide)) (hc.mono (by omega))
    by_cases q : ∃ k, gReg a1 k
    · obtain ⟨k, hk⟩ := id q
      exact sp_needReg_in hk (sp_needObj_out (hc'.wf hE) hc'.2.2 (fun z => hn ⟨q, z⟩) (Or.inl ⟨rfl, hfin⟩))
    · exact sp_needReg_out q (Or.inl ⟨rfl, hfin⟩)
theorem g_it_L (G : G_) (k j n : Nat) : ∀ d, (g_it G k j n d).2.2 = G.2.2 + d := by
  intro d
  induction d with
  | zero => rfl
  | succ d ih =>
    show (g_it G k j n d).2.2 + 1 = _
    omega
theorem sp_chain_34 {k j n m d : Nat} {post : Int32 → (Nat → Int32) → (Nat → Int32) → Int32 → (Nat → Int32) → (Nat → Int32) → Int32 → Int32 → (Nat → Int32) → Int32 → (Nat → Int32) → Int32 → Int32 → Prop} {px : String → (Nat → Int32) → (Nat → Int32) → Int32 → (Nat → Int32) → (Nat → Int32) → Int32 → Int32 → (Nat → Int32) → Int32 → (Nat → Int32) → Int32 → Int32 → Prop} {kx : Int32 → (Nat → Int32) → (Nat → Int32) → Int32 → (Nat → Int32) → (Nat → Int32) → Int32 → Int32 → (Nat → Int32) → Int32 → (Nat → Int32) → Int32 → Int32 → Prop}
    (hE : nE ≤ 8192) (hW : nW ≤ 65536) (hK : K + 4001 < 2 ^ 31) (hL0 : G.2.2 ≤ K) (hk : gReg a1 k) (hj : gReg a2 j) (hn1 : 1 ≤ n) (hn2 : n ≤ 100) (hm : m ≤ 4000) (hdm : d ≤ m) (hfit : ∀ x, x < d → g_fits nW nE (g_it G k j n x) (4 + n)) (hend : d = m ∨ ¬ g_fits nW nE (g_it G k j n d) (4 + n))
    (hkx : ∀ R' f' us' P' S' sc' li' rc' rn' ro' rd' st', d = m → c_rep nW nE (K + 4001) (g_it G k j n d) R' f' us' P' S' sc' li' ro' rd' st' → kx (nI m) R' f' us' P' S' sc' li' rc' rn' ro' rd' st')
    (hpost : ∀ R' f' us' P' S' sc' li' rc' rn' ro' rd' st', c_rep nW nE (K + 4001) (g_it G k j n d) R' f' us' P' S' sc' li' ro' rd' st' → post (nI d) R' f' us' P' S' sc' li' rc' rn' ro' rd' st') :
    ∀ (q t : Nat) (os : List Ob_) (sl : List Nat) (D : Nat) (R f P S rc ro : Nat → Int32) (rn st : Int32), t + q = m → t ≤ d → D ≤ K + t → c_core nW nE os sl D (g_it G k j n t) R f P S ro st →
      wqT_chain_34 nW nE a1 a2 a3 (nI m) (nI (2 * n)) post px kx (q + 1) (nI t) R f (nI (zo_row os).length) P S (nI sl.length) (nI (g_it G k j n t).2.2) rc rn ro (nI D) st := by
  intro q
  induction q with
  | zero =>
    intro t os sl D R f P S rc ro rn st ht htd hD hc
    unfold wqT_chain_34
    have htm : t = m := by omega
    refine ⟨fun _ => ?_, fun z => absurd (nI_le (by omega) (by omega)) z⟩
    have : t = d := by omega
    subst this
    rw [htm] at hc ⊢
    have hkx' := hkx R f (nI (zo_row os).length) P S (nI sl.length) (nI (g_it G k j n m).2.2) rc rn ro (nI D) st htm
    rw [htm] at hkx'
    refine hkx' ⟨os, sl, D, rfl, rfl, rfl, rfl, ?_, by omega, hc⟩
    rw [g_it_L]; omega
  | succ q ih =>
    intro t os sl D R f P S rc ro rn st ht htd hD hc
    have hw := hc.wf hE
    unfold wqT_chain_34
    refine ⟨fun z => absurd z (nI_ge (by omega) (by omega)), fun _ => ⟨gReg_in hj, ?_⟩⟩
    rw [gReg_cl hj]
    have hLt := g_it_L G k j n t
    have hb2 : bW_ (2 * n) = n := by rw [bW_even (by omega)]; omega
    refine c_build (h := 2 * n) hE hW (by omega) (by omega) hc (zo_ok_reg hw hj.1) (by omega) ?_ ?_
    · intro hnf os' sl' D' f' P' S' rc' rn' ro' st' hD' hc2
      rw [hb2] at hnf
      have htd' : t = d := by
        rcases Nat.lt_or_ge t d with z | z
        · exact absurd (hfit t z) hnf
        · omega
      subst htd'
      refine ⟨fun _ => hpost _ _ _ _ _ _ _ _ _ _ _ _ ⟨os', sl', D', rfl, rfl, rfl, rfl, by omega, by omega, hc2⟩, fun z => absurd rfl z⟩
    · intro hf os' sl' D' e f' P' S' rc' rn' ro' st' hD' hsub hw' ha' hv' hL' hst' he hI
      rw [hb2] at hf
      have htd' : t < d := by
        rcases Nat.lt_or_ge t d with z | z
        · exact z
        · have : t = d := by omega
          subst this
          rcases hend with z' | z'
          · omega
          · exact absurd hf z'
      refine ⟨fun z => absurd z (ov_ne0 (by omega)), fun _ => ⟨gReg_in hk, ?_⟩⟩
      rw [gReg_cl hk]
      have hob := zo_last hE hW hI
      have hbn : (oB (zo_new e (g_it G k j n t).2.2 (R j) (2 * n))) = List.replicate n 0 := by
        show List.replicate (bW_ (2 * n)) (0 : Int32) = _
        rw [hb2]
      have q4 := hob.2.2.2.1
      rw [hbn, List.length_replicate] at q4
      unfold wqM_setSlot
      refine sp_place hE hob.1 ?_
      rw [hob.2.1, zi_4, zi_0]
      have h0 : f' ((zo_row os').length + 4) = 0 := by
        have := hob.bd (i := 0) (x := 0) (by rw [hbn]; rw [List.getElem?_replicate, if_pos (by omega)])
        exact this
      have hwr : ∀ st1, st1 = st' → wqT_chain_34 nW nE a1 a2 a3 (nI m) (nI (2 * n)) post px kx (q + 1) (nI t + 1) (upd R k (ov_ e)) (upd f' ((zo_row os').length + 4) (R k)) (nI (zo_row (os' ++ [zo_new e (g_it G k j n t).2.2 (R j) (2 * n)])).length) P' S' (nI sl'.length) (nI ((g_it G k j n t).2.2 + 1)) rc' rn' ro' (nI D') st1 := by
        rintro st1 rfl
        have hsl : zo_slots (e, (g_it G k j n t).2.2 + 1, R j, 2 * n, (List.replicate n 0).set 0 (R k)) = (List.replicate n 0).set 0 (R k) := sl_of (o := (e, (g_it G k j n t).2.2 + 1, R j, 2 * n, (List.replicate n 0).set 0 (R k))) (by show 2 * n % 2 = 0; omega)
        have hkid : ∀ v ∈ zo_kids (e, (g_it G k j n t).2.2 + 1, R j, 2 * n, (List.replicate n 0).set 0 (R k)), zo_ok os' R v := by
          intro v hv
          unfold zo_kids at hv
          rw [hsl] at hv
          rcases List.mem_cons.mp hv with z | z
          · rw [z]; exact zo_ok_reg hw' hj.1
          · rcases List.mem_or_eq_of_mem_set z with z | z
            · rw [List.eq_of_mem_replicate z]; exact zo_ok_n (Or.inl rfl)
            · rw [z]; exact zo_ok_reg hw' hk.1
        have hm2 := inv_mod (o' := (e, (g_it G k j n t).2.2 + 1, R j, 2 * n, (List.replicate n 0).set 0 (R k))) (f' := upd f' ((zo_row os').length + 4) (R k)) hI rfl rfl rfl (by rw [hbn]; show ((List.replicate n (0 : Int32)).set 0 (R k)).length = _; simp) ?_ (fun v hv => zo_Vo_mono (hkid v hv).1)
        · have hcore := c_born (k := k) (st1 := st1) hE hw' ha' hL' hm2.1 rfl hk.1 hkid (by
            rcases hst' with z | ⟨z, z2⟩
            · exact Or.inl z
            · refine Or.inr ⟨z, z2, fun e' hd => ⟨R k, ?_, hd⟩⟩
              unfold zo_kids
              rw [hsl]
              refine List.mem_cons_of_mem _ (List.mem_of_getElem? (i := 0) ?_)
              rw [List.getElem?_set_self (by simp; omega)])
          have hao : zo_ao bxC os' (e, (g_it G k j n t).2.2 + 1, R j, 2 * n, (List.replicate n 0).set 0 (R k)) = ((g_it G k j n t).1 j, 2 * n, (g_it G k j n t).1 k :: List.replicate (n - 1) (.inl 0), []) := by
            unfold zo_ao
            rw [hsl, if_neg (by show ¬ 2 * n % 2 = 1; omega)]
            obtain ⟨n', rfl⟩ : ∃ n', n = n' + 1 := ⟨n - 1, by omega⟩
            show (zv_ os' (R j), 2 * (n' + 1), (R k :: List.replicate n' 0).map (zv_ os'), []) = _
            rw [ha'.1 j hj.1, List.map_cons, ha'.1 k hk.1, List.map_replicate, zv_n (Or.inl rfl)]
            rfl
          rw [hao] at hcore
          rw [zi_1, ← hm2.2]
          exact ih (t + 1) _ sl' D' _ _ P' S' rc' ro' rn' st1 (by omega) (by omega) (by omega) hcore
        · rw [zo_row_set (o := zo_new e (g_it G k j n t).2.2 (R j) (2 * n)) (k := 4) (x := R k)]
          · exact zo_is_set hI.1.1
          · show _ :: _ :: _ :: _ :: (List.replicate n 0).set 0 (R k) = (_ :: _ :: _ :: _ :: oB (zo_new e (g_it G k j n t).2.2 (R j) (2 * n))).set 4 (R k)
            rw [hbn]
            rfl
          · rw [zo_flat_len, hbn, List.length_replicate]; omega
      refine sp_overwrite (by omega) hW h0 (Or.inl (Or.inl rfl)) (fun z => ?_) (fun _ => ⟨gReg_in hk, hwr st' rfl⟩)
      obtain ⟨e', he'⟩ := z
      rw [zo_dec_0] at he'
      cases he'
theorem cL_chain {pq : Int32 → (Nat → Int32) → (Nat → Int32) → Int32 → (Nat → Int32) → (Nat → Int32) → Int32 → Int32 → (Nat → Int32) → Int32 → (Nat → Int32) → Int32 → Int32 → (Nat → Int64) → Prop} (hE : nE ≤ 8192) (hW : nW ≤ 65536) (hK : K + 4001 < 2 ^ 31) (hc : c_rep nW nE K G R f us P S sc li ro rd st) (hA : A_chain nW nE G a1 a2 a3 a4 c o_ G')
    (h : ∀ R' f' us' P' S' sc' li' rc' rn' ro' rd' st' ot', (c = 0 → ot' 0 = o_.toInt64) → c_rep nW nE (K + 4001) G' R' f' us' P' S' sc' li' ro' rd' st' → pq c R' f' us' P' S' sc' li' rc' rn' ro' rd' st' ot') :
    wqL_chain nW nE R f us P S sc li rc rn ro rd st ot a1 a2 a3 a4 pq := by
  unfold wqL_chain wqT_chain
  rcases hA with ⟨k, j, n, m, d, ⟨hk, hj, rfl, hn1, hn2, rfl, hm1, hm2⟩, hdm, hfit, hend, rfl, rfl, rfl⟩ | ⟨hn, rfl, rfl⟩
  · obtain ⟨os, sl, D, rfl, rfl, rfl, rfl, e5, e6, hc'⟩ := id hc
    have h1 : (1 : Int32).toInt ≤ (nI n).toInt ∧ (nI n).toInt ≤ (100 : Int32).toInt := by
      rw [nI_toInt (by omega)]
      show (1 : Int) ≤ _ ∧ _ ≤ (100 : Int)
      omega
    have h2 : (1 : Int32).toInt ≤ (nI m).toInt ∧ (nI m).toInt ≤ (4000 : Int32).toInt := by
      rw [nI_toInt (by omega)]
      show (1 : Int) ≤ _ ∧ _ ≤ (4000 : Int)
      omega
    refine sp_needReg_in hk (sp_needReg_in hj (sp_needBetween_in h1.1 h1.2 (sp_needBetween_in h2.1 h2.2 (sp_shape ?_))))
    rw [if_neg (by decide)]
    refine ⟨m + 1, ?_⟩
    refine sp_chain_34 (K := K) (d := d) hE hW hK e5 hk hj hn1 hn2 hm2 hdm hfit hend ?_ ?_ m 0 os sl D R f P S rc ro rn st (by omega) (by omega) (by omega) hc'
    · intro R' f' us' P' S' sc' li' rc' rn' ro' rd' st' hd hc2
      subst hd
      exact ⟨vp01, h _ _ _ _ _ _ _ _ _ _ _ _ _ (fun _ => ot_) hc2⟩
    · intro R' f' us' P' S' sc' li' rc' rn' ro' rd' st' hc2
      exact ⟨vp01, h _ _ _ _ _ _ _ _ _ _ _ _ _ (fun _ => ot_) hc2⟩
  · have hfin := h R f us P S sc li rc rn ro rd st ot (fun z => absurd z (by decide)) (hc.mono (by omega))
    by_cases q : ∃ k, gReg a1 k
    · obtain ⟨k, hk⟩ := id q
      refine sp_needReg_in hk ?_
      by_cases q2 : ∃ j, gReg a2 j
      · obtain ⟨j, hj⟩ := id q2
        refine sp_needReg_in hj ?_
        by_cases q3 : ∃ n, 1 ≤ n ∧ n ≤ 100 ∧ a3 = nI n
        · obtain ⟨n, n1, n2, rfl⟩ := id q3
          have h1 : (1 : Int32).toInt ≤ (nI n).toInt ∧ (nI n).toInt ≤ (100 : Int32).toInt := by
            rw [nI_toInt (by omega)]
            show (1 : Int) ≤ _ ∧ _ ≤ (100 : Int)
            omega
          refine sp_needBetween_in h1.1 h1.2 (sp_needBetween_out ?_ ⟨rfl, hfin⟩)
          intro z
          have z1 : 1 ≤ a4.toInt := z.1
          have z2 : a4.toInt ≤ 4000 := z.2
          obtain ⟨m, m1, rfl⟩ := (nI_ex (a := a4) (N := 4000) (by omega)).mpr ⟨by omega, z2⟩
          rw [nI_toInt (by omega)] at z1
          exact hn ⟨k, j, n, m, hk, hj, rfl, n1, n2, rfl, by omega, m1⟩
        · refine sp_needBetween_out ?_ ⟨rfl, hfin⟩
          intro z
          have z1 : 1 ≤ a3.toInt := z.1
          have z2 : a3.toInt ≤ 100 := z.2
          obtain ⟨m, m1, rfl⟩ := (nI_ex (a := a3) (N := 100) (by omega)).mpr ⟨by omega, z2⟩
          rw [nI_toInt (by omega)] at z1
          exact q3 ⟨m, by omega, m1, rfl⟩
      · exact sp_needReg_out q2 ⟨rfl, hfin⟩
    · exact sp_needReg_out q ⟨rfl, hfin⟩
end CK

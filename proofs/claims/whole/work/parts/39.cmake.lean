/-! the class's make, copy, chain -/
section CM
variable {nW nE D K : Nat} {os : List Ob_} {sl : List Nat} {G G' : G_} {R f P S ro rc : Nat → Int32} {us sc li rd st rn : Int32} {a b a1 a2 a3 a4 c o_ w : Int32} {ot : Nat → Int64}
theorem c_settle2 {post : (Nat → Int32) → Int32 → (Nat → Int32) → (Nat → Int32) → Int32 → (Nat → Int32) → Int32 → (Nat → Int32) → Int32 → Int32 → Prop} (hE : nE ≤ 8192) (hW : nW ≤ 65536) (hD : D + 1 < 2 ^ 31) (hc : c_core nW nE os sl D G R f P S ro st)
    (h : ∀ os' sl' D' f' P' S' rc' rn' ro', D' ≤ D + 1 → c_core nW nE os' sl' D' G R f' P' S' ro' 1 → (∀ o ∈ os', zo_reach os' R (oE o)) → (∀ o ∈ os, zo_reach os R (oE o) → o ∈ os') → post f' (nI (zo_row os').length) P' S' (nI sl'.length) rc' rn' ro' (nI D') 1) :
    wqM_settle nW nE R f (nI (zo_row os).length) P S (nI sl.length) rc rn ro (nI D) st post := by
  have hw := hc.wf hE
  obtain ⟨c1, c2, c3⟩ := hc
  refine sp_settle hE hW hD c1 c2 ?_
  intro g sl' D' f' P' S' rc' ro' rn' hg hD' hI
  obtain ⟨g1, g2, g3⟩ := zo_gc hw c3 hg
  exact h _ _ _ _ _ _ _ _ _ hD' ⟨hI, Or.inr ⟨rfl, g3⟩, g2⟩ g3 (fun o ho hr => List.mem_filter.mpr ⟨ho, (hg o ho).mpr hr⟩)
theorem zo_ok_sub {os' : List Ob_} {v : Int32} (hw : zo_wf os R) (hs : ∀ o ∈ os, zo_reach os R (oE o) → o ∈ os') (hv : zo_ok os R v) : zo_Vo os' v := by
  rcases hv.1 with q | ⟨o, ho, rfl⟩
  · exact Or.inl q
  · exact Or.inr ⟨o, hs o ho (hv.2 _ (zo_dec_ov (hw.2.1 o ho))), rfl⟩
/-- building: there is room, or there is none -/
theorem c_build {h : Nat} {v : Int32} {post : Int32 → (Nat → Int32) → Int32 → (Nat → Int32) → (Nat → Int32) → Int32 → Int32 → (Nat → Int32) → Int32 → (Nat → Int32) → Int32 → Int32 → Prop} (hE : nE ≤ 8192) (hW : nW ≤ 65536) (hD : D + 1 < 2 ^ 31) (hL : G.2.2 + 1 < 2 ^ 31) (hc : c_core nW nE os sl D G R f P S ro st) (hv : zo_ok os R v) (hh : h ≤ 32001)
    (hno : ¬ g_fits nW nE G (4 + bW_ h) → ∀ os' sl' D' f' P' S' rc' rn' ro' st', D' ≤ D + 1 → c_core nW nE os' sl' D' G R f' P' S' ro' st' → post 0 f' (nI (zo_row os').length) P' S' (nI sl'.length) (nI G.2.2) rc' rn' ro' (nI D') st')
    (hok : g_fits nW nE G (4 + bW_ h) → ∀ os' sl' D' e f' P' S' rc' rn' ro' st', D' ≤ D + 1 → (∀ o ∈ os, zo_reach os R (oE o) → o ∈ os') → zo_wf os' R → zo_abs bxC os' R G.1 G.2.1 → zo_Vo os' v → (∀ o ∈ os', oI o ≤ G.2.2) → (st' = 0 ∨ st' = 1 ∧ ∀ o ∈ os', zo_reach os' R (oE o)) → e < nE →
      zo_inv nW nE (os' ++ [zo_new e G.2.2 v h]) sl' (G.2.2 + 1) D' R f' P' S' ro' → post (ov_ e) f' (nI (zo_row (os' ++ [zo_new e G.2.2 v h])).length) P' S' (nI sl'.length) (nI (G.2.2 + 1)) rc' rn' ro' (nI D') st') :
    wqM_build nW nE R f (nI (zo_row os).length) P S (nI sl.length) (nI G.2.2) rc rn ro (nI D) st v (nI h) post := by
  have hw := hc.wf hE
  unfold wqM_build
  have hb := bW_le hh
  refine sp_bodyWords (by omega) ?_
  rw [zi_4']
  have hr2 := hc.1.1.2.1
  have hsl := hc.1.2.2.2.2.2.1
  refine sp_fits hr2 hW hE (by omega) (by omega) ?_
  by_cases c0 : 0 < sl.length ∧ (zo_row os).length + (4 + bW_ h) ≤ nW
  · rw [if_pos c0]
    refine ⟨fun z => absurd z (by decide), fun _ => ?_⟩
    obtain ⟨l, hl, h1, h2⟩ := g_all_ex hw hc.2.2
    have hf : g_fits nW nE G (4 + bW_ h) := ⟨l, hl, by omega, by omega⟩
    refine sp_build_22 hE hW hL hc.1 hv.1 hh (fun z => absurd c0 z) ?_
    intro e sl' f' P' _ _ he hI
    exact hok hf os sl' D e f' P' S rc rn ro st (by omega) (fun o ho _ => ho) hw hc.2.2 hv.1 (fun o ho => (hc.1.2.2.2.2.2.2.2.1 o ho).2) hc.2.1 he hI
  · rw [if_neg c0]
    refine ⟨fun _ => ?_, fun z => absurd rfl z⟩
    refine c_settle2 hE hW hD hc ?_
    intro os' sl' D' f' P' S' rc' rn' ro' hD' hc2 hall hsub
    have hw2 := hc2.wf hE
    have hv2 := zo_ok_sub hw hsub hv
    have hsl' := hc2.1.2.2.2.2.2.1
    obtain ⟨g1, g2⟩ := g_all_eq hw2 hc2.2.2 hall
    have hiff := g_fits_iff (nW := nW) (nE := nE) (w := 4 + bW_ h) g1
    rw [List.length_map, g2] at hiff
    refine sp_build_22 hE hW hL hc2.1 hv2 hh (fun z => ?_) ?_
    · exact hno (fun q => z (by have := hiff.mp q; omega)) os' sl' D' f' P' S' rc' rn' ro' 1 hD' hc2
    · intro e sl2 f2 P2 hfit hsl2 he hI
      have hf : g_fits nW nE G (4 + bW_ h) := hiff.mpr ⟨by rw [hsl2] at hsl'; simp at hsl'; omega, hfit⟩
      exact hok hf os' sl2 D' e f2 P2 S' rc' rn' ro' 1 hD' hsub hw2 hc2.2.2 hv2 (fun o ho => (hc2.1.2.2.2.2.2.2.2.1 o ho).2) hc2.2.1 he hI
/-- an object in the row is written anew -/
theorem inv_mod {L : Nat} {pre post : List Ob_} {o o' : Ob_} {f' : Nat → Int32} (hc : zo_inv nW nE (pre ++ o :: post) sl L D R f P S ro) (hE : oE o' = oE o) (hI : oI o' = oI o) (hH : oH o' = oH o) (hl : (oB o').length = (oB o).length)
    (hf : zo_is f' (zo_row (pre ++ o' :: post)) 0) (hk : ∀ v ∈ zo_kids o', zo_Vo (pre ++ o :: post) v) : zo_inv nW nE (pre ++ o' :: post) sl L D R f' P S ro ∧ (zo_row (pre ++ o' :: post)).length = (zo_row (pre ++ o :: post)).length := by
  obtain ⟨i1, i2, i3, i4, i5, i6, i7, i8, i9⟩ := hc
  obtain ⟨r1, r2, r3, r4, r5, r6⟩ := i1
  have hob := r4 o (by simp)
  have hlen : (zo_row (pre ++ o' :: post)).length = (zo_row (pre ++ o :: post)).length := by
    rw [zo_row_app, zo_row_app]
    show (zo_row pre ++ (zo_flat o' ++ zo_row post)).length = (zo_row pre ++ (zo_flat o ++ zo_row post)).length
    simp only [List.length_append, zo_flat_len, hl]
  have mE : (pre ++ o' :: post).map oE = (pre ++ o :: post).map oE := by simp only [List.map_append, List.map_cons]; rw [hE]
  have mI : (pre ++ o' :: post).map oI = (pre ++ o :: post).map oI := by simp only [List.map_append, List.map_cons]; rw [hI]
  have hVV : ∀ {v}, zo_Vo (pre ++ o :: post) v → zo_Vo (pre ++ o' :: post) v := fun hv => zo_Vo_eq (fun x hx => by rw [mE]; exact hx) hv
  have hmem : ∀ x ∈ pre ++ o' :: post, x = o' ∨ x ∈ pre ++ o :: post := by
    intro x hx
    rcases List.mem_append.mp hx with q | q
    · exact Or.inr (List.mem_append_left _ q)
    · rcases List.mem_cons.mp q with q | q
      · exact Or.inl q
      · exact Or.inr (List.mem_append_right _ (List.mem_cons_of_mem _ q))
  refine ⟨⟨⟨hf, by rw [hlen]; exact r2, zo_Pl_mod hE hl r3, ?_, by rw [mE]; exact r5, ?_⟩, fun r hr => hVV (i2 r hr), i3, by rw [mE]; exact i4, i5, ?_, by rw [mI]; exact i7, ?_, i9⟩, hlen⟩
  · intro x hx
    rcases hmem x hx with rfl | q
    · rw [hE, hl, hH]; exact hob
    · exact r4 x q
  · intro x hx v hv
    rcases hmem x hx with rfl | q
    · exact hVV (hk v hv)
    · exact hVV (r6 x q v hv)
  · rw [← i6]; simp
  · intro x hx
    rcases hmem x hx with rfl | q
    · rw [hI]; exact i8 o (by simp)
    · exact i8 x q
/-- the new object, as it stands in the end, and the register that has it -/
theorem c_born {k : Nat} {n : Ob_} {st1 : Int32} (hE : nE ≤ 8192) (hw : zo_wf os R) (ha : zo_abs bxC os R G.1 G.2.1) (hL : ∀ o ∈ os, oI o ≤ G.2.2) (hI : zo_inv nW nE (os ++ [n]) sl (G.2.2 + 1) D R f P S ro) (hn : oI n = G.2.2 + 1) (hk : k < 32) (hkid : ∀ v ∈ zo_kids n, zo_ok os R v)
    (hst : st1 = 0 ∨ st1 = 1 ∧ (∀ o ∈ os, zo_reach os R (oE o)) ∧ ∀ e, zo_dec (R k) = some e → ∃ v ∈ zo_kids n, zo_dec v = some e) : c_core nW nE (os ++ [n]) sl D (gM_ G k (zo_ao bxC os n)) (upd R k (ov_ (oE n))) f P S ro st1 := by
  obtain ⟨i1, i2, i3, i4, i5, i6, i7, i8, i9⟩ := hI
  have hm := i1.2.2.2.1 n (by simp)
  have hne : ∀ x ∈ os, oE x ≠ oE n := by
    intro x hx
    have h5 := i1.2.2.2.2.1
    rw [List.map_append, List.nodup_append] at h5
    exact h5.2.2 (oE x) (List.mem_map_of_mem hx) (oE n) (by simp)
  obtain ⟨b1, b2, b3⟩ := zo_born hw ha hk (by omega) hne (fun x hx => by have := hL x hx; omega) hm.2.1 hkid
  rw [hn] at b2
  refine ⟨⟨i1, b1.2.2.2.1, i3, i4, i5, i6, i7, i8, i9⟩, ?_, b2⟩
  rcases hst with hst | ⟨hst, hall, hkk⟩
  · exact Or.inl hst
  · refine Or.inr ⟨hst, ?_⟩
    have hroot : zo_reach (os ++ [n]) (upd R k (ov_ (oE n))) (oE n) := zo_reach_root hk (by rw [pk_us, zo_dec_ov (by omega)])
    have hup : ∀ e, zo_reach os R e → zo_reach (os ++ [n]) (upd R k (ov_ (oE n))) e := by
      intro e he
      refine he (fun e => zo_reach (os ++ [n]) (upd R k (ov_ (oE n))) e) ?_ ?_
      · intro r hr e' hd
        by_cases c : r = k
        · subst c
          obtain ⟨v, hv, hd'⟩ := hkk e' hd
          exact zo_reach_kid (by simp) hroot hv hd'
        · exact zo_reach_root hr (by rw [pk_un c]; exact hd)
      · intro o ho hro v hv e' hd
        exact zo_reach_kid (List.mem_append_left _ ho) hro hv hd
    intro o ho
    rcases List.mem_append.mp ho with q | q
    · exact hup _ (hall o q)
    · rw [List.mem_singleton.mp q]
      exact hroot
theorem sp_letGo {nv : Int32} {post : Int32 → Prop} (hV : zo_V 8192 nv) (h1 : (∃ e, zo_dec nv = some e) → post 0) (h2 : zo_dec nv = none → post st) : wqM_letGo nW nE st nv post := by
  rcases hV with q | ⟨e, he, rfl⟩
  · exact sp_letGo_n q (h2 (zo_dec_n q))
  · exact sp_letGo_o he (h1 ⟨e, zo_dec_ov he⟩)
theorem zo_last {n : Ob_} {L : Nat} (hE : nE ≤ 8192) (hW : nW ≤ 65536) (hI : zo_inv nW nE (os ++ [n]) sl L D R f P S ro) : zo_ob nW nE f P (oE n) n (zo_row os).length := hI.1.ob hE hW
theorem cL_make {pq : Int32 → (Nat → Int32) → (Nat → Int32) → Int32 → (Nat → Int32) → (Nat → Int32) → Int32 → Int32 → (Nat → Int32) → Int32 → (Nat → Int32) → Int32 → Int32 → (Nat → Int64) → Prop} (hE : nE ≤ 8192) (hW : nW ≤ 65536) (hK : K + 1 < 2 ^ 31) (hc : c_rep nW nE K G R f us P S sc li ro rd st) (hA : A_make nW nE G a1 a2 a3 a4 c o_ G')
    (h : ∀ R' f' us' P' S' sc' li' rc' rn' ro' rd' st' ot', (c = 0 → ot' 0 = o_.toInt64) → c_rep nW nE (K + 1) G' R' f' us' P' S' sc' li' ro' rd' st' → pq c R' f' us' P' S' sc' li' rc' rn' ro' rd' st' ot') :
    wqL_make nW nE R f us P S sc li rc rn ro rd st ot a1 a2 a3 a4 pq := by
  unfold wqL_make wqT_make
  have hgood : ∀ k j n, A_makeOk a1 a2 a3 a4 k j n → gSh n a4 ≤ 32001 := by
    rintro k j n ⟨-, -, -, hn⟩
    unfold gSh
    split
    · rename_i q; rw [if_pos q] at hn; omega
    · rename_i q; rw [if_neg q] at hn; omega
  have enter : ∀ {k j n : Nat}, A_makeOk a1 a2 a3 a4 k j n → ∀ {X : Prop} {px : String → Prop}, X → ((a4 = 0 → wqT_needBetween a3 (0 : Int32) (16000 : Int32) X px) ∧ (¬ (a4 = 0) → wqT_needBetween a3 (0 : Int32) (4000 : Int32) X px)) := by
    rintro k j n ⟨-, -, rfl, hn⟩ X px hX
    refine ⟨fun q => ?_, fun q => ?_⟩
    · rw [if_pos q] at hn
      have h0 := (nI_ex (a := nI n) (N := 16000) (by omega)).mp ⟨n, hn, rfl⟩
      exact sp_needBetween_in h0.1 h0.2 hX
    · rw [if_neg q] at hn
      have h0 := (nI_ex (a := nI n) (N := 4000) (by omega)).mp ⟨n, hn, rfl⟩
      exact sp_needBetween_in h0.1 h0.2 hX
  rcases hA with ⟨k, j, n, hok, hfit, rfl, rfl, rfl⟩ | ⟨k, j, n, hok, hfit, rfl, rfl⟩ | ⟨hn, rfl, rfl⟩
  · obtain ⟨os, sl, D, rfl, rfl, rfl, rfl, e5, e6, hc'⟩ := id hc
    have hw := hc'.wf hE
    have hh := hgood k j n hok
    obtain ⟨hk, hj, rfl, hn⟩ := id hok
    refine sp_needReg_in hk (sp_needReg_in hj (enter hok ?_))
    unfold wqT_make_27
    refine ⟨gReg_in hj, sp_shape ?_⟩
    rw [gReg_cl hj]
    refine c_build (h := gSh n a4) hE hW (by omega) (by omega) hc' (zo_ok_reg hw hj.1) hh (fun q => absurd hfit q) ?_
    intro _ os' sl' D' e f' P' S' rc' rn' ro' st' hD' hsub hw' ha' hv' hL' hst' he hI
    unfold wqT_needMade
    refine ⟨fun z => absurd z (ov_ne0 (by omega)), fun _ => ?_⟩
    unfold wqT_setRegister
    rw [gReg_cl hk]
    refine ⟨gReg_in hk, ?_⟩
    have hob := zo_last hE hW hI
    have hkid : ∀ v ∈ zo_kids (zo_new e G.2.2 (R j) (gSh n a4)), zo_ok os' R v := by
      intro v hv
      rcases zo_kids_new hv with q | q
      · rw [q]; exact zo_ok_reg hw' hj.1
      · rw [q]; exact zo_ok_n (Or.inl rfl)
    have hao : zo_ao bxC os' (zo_new e G.2.2 (R j) (gSh n a4)) = gNew (G.1 j) (gSh n a4) := by
      rw [zo_ao_new bxC_0 rfl, ← ha'.1 j hj.1]
      rfl
    have fin : ∀ st1, (st1 = 0 ∨ st1 = 1 ∧ (∀ o ∈ os', zo_reach os' R (oE o)) ∧ zo_dec (R k) = none) → wqM_identity nW nE f' P' (ov_ e) (fun r70 => vp_in (0 : Int32) 1 ∧ (pq (0 : Int32) (upd R k (ov_ e)) f' (nI (zo_row (os' ++ [zo_new e G.2.2 (R j) (gSh n a4)])).length) P' S' (nI sl'.length) (nI (G.2.2 + 1)) rc' rn' ro' (nI D') st1 (vp_updL ot (0 : Int32).toNatClampNeg r70.toInt64))) := by
      intro st1 hst1
      have hcore := c_born (k := k) (st1 := st1) hE hw' ha' hL' hI rfl hk.1 hkid (by
        rcases hst1 with q | ⟨q, q2, q3⟩
        · exact Or.inl q
        · exact Or.inr ⟨q, q2, fun e' hd => by rw [q3] at hd; cases hd⟩)
      rw [hao] at hcore
      refine sp_identity hob ⟨vp01, h _ _ _ _ _ _ _ _ _ _ _ _ _ (fun _ => ot_) ⟨_, sl', D', rfl, rfl, rfl, rfl, ?_, by omega, hcore⟩⟩
      show G.2.2 + 1 ≤ K + 1
      omega
    refine sp_letGo ((hw'.2.2.2.1 k hk.1).V8 hw'.2.1) (fun _ => ⟨gReg_in hk, fin 0 (Or.inl rfl)⟩) (fun z => ⟨gReg_in hk, fin st' ?_⟩)
    rcases hst' with q | ⟨q, q2⟩
    · exact Or.inl q
    · exact Or.inr ⟨q, q2, z⟩
  · obtain ⟨os, sl, D, rfl, rfl, rfl, rfl, e5, e6, hc'⟩ := id hc
    have hw := hc'.wf hE
    have hh := hgood k j n hok
    obtain ⟨hk, hj, rfl, hn⟩ := id hok
    refine sp_needReg_in hk (sp_needReg_in hj (enter hok ?_))
    unfold wqT_make_27
    refine ⟨gReg_in hj, sp_shape ?_⟩
    rw [gReg_cl hj]
    refine c_build (h := gSh n a4) hE hW (by omega) (by omega) hc' (zo_ok_reg hw hj.1) hh ?_ (fun q => absurd q hfit)
    intro _ os' sl' D' f' P' S' rc' rn' ro' st' hD' hc2
    unfold wqT_needMade
    exact ⟨fun _ => Or.inr ⟨rfl, h _ _ _ _ _ _ _ _ _ _ _ _ _ (fun z => absurd z (by decide)) ⟨os', sl', D', rfl, rfl, rfl, rfl, by omega, by omega, hc2⟩⟩, fun z => absurd rfl z⟩
  · have hfin := h R f us P S sc li rc rn ro rd st ot (fun z => absurd z (by decide)) (hc.mono (by omega))
    by_cases q : ∃ k, gReg a1 k
    · obtain ⟨k, hk⟩ := id q
      refine sp_needReg_in hk ?_
      by_cases q2 : ∃ j, gReg a2 j
      · obtain ⟨j, hj⟩ := id q2
        refine sp_needReg_in hj ⟨fun z => sp_needBetween_out ?_ (Or.inl ⟨rfl, hfin⟩), fun z => sp_needBetween_out ?_ (Or.inl ⟨rfl, hfin⟩)⟩
        · intro y
          obtain ⟨n, hn1, hn2⟩ := (nI_ex (a := a3) (N := 16000) (by omega)).mpr y
          exact hn ⟨k, j, n, hk, hj, hn2, by rw [if_pos z]; exact hn1⟩
        · intro y
          obtain ⟨n, hn1, hn2⟩ := (nI_ex (a := a3) (N := 4000) (by omega)).mpr y
          exact hn ⟨k, j, n, hk, hj, hn2, by rw [if_neg z]; exact hn1⟩
      · exact sp_needReg_out q2 (Or.inl ⟨rfl, hfin⟩)
    · exact sp_needReg_out q (Or.inl ⟨rfl, hfin⟩)
end CM

/-! the class's calls that settle: words, entries, instance, owners -/
theorem srt_u : ∀ (l l' : List Nat), l.Pairwise (· < ·) → l'.Pairwise (· < ·) → (∀ i, i ∈ l ↔ i ∈ l') → l = l' := by
  intro l
  induction l with
  | nil =>
    intro l' _ _ h
    cases l' with
    | nil => rfl
    | cons b t => exact absurd ((h b).mpr List.mem_cons_self) (by simp)
  | cons a l ih =>
    intro l' h1 h2 h
    cases l' with
    | nil => exact absurd ((h a).mp List.mem_cons_self) (by simp)
    | cons b t =>
      rw [List.pairwise_cons] at h1 h2
      have hab : a = b := by
        rcases List.mem_cons.mp ((h a).mp List.mem_cons_self) with q | q
        · exact q
        · rcases List.mem_cons.mp ((h b).mpr List.mem_cons_self) with q' | q'
          · exact q'.symm
          · have := h1.1 b q'
            have := h2.1 a q
            omega
      subst hab
      rw [ih t h1.2 h2.2]
      intro i
      constructor
      · intro hi
        rcases List.mem_cons.mp ((h i).mp (List.mem_cons_of_mem _ hi)) with q | q
        · have := h1.1 i hi
          omega
        · exact q
      · intro hi
        rcases List.mem_cons.mp ((h i).mpr (List.mem_cons_of_mem _ hi)) with q | q
        · have := h2.1 i hi
          omega
        · exact q
def cntZ (v : Int32) (l : List Int32) : Nat := l.countP (fun x => decide (x = v))
theorem cntZ_cons (v x : Int32) (l : List Int32) : cntZ v (x :: l) = cntZ v l + if x = v then 1 else 0 := by
  unfold cntZ
  rw [List.countP_cons]
  simp
theorem cnt_zv {os : List Ob_} {R : Nat → Int32} {v : Int32} (hw : zo_wf os R) (hv : zo_Vo os v) : ∀ l : List Int32, (∀ x ∈ l, zo_Vo os x) → gCnt (zv_ os v) (l.map (zv_ os)) = cntZ v l := by
  intro l
  induction l with
  | nil => intro _; rfl
  | cons x l ih =>
    intro h
    rw [cntZ_cons, ← ih (fun y hy => h y (List.mem_cons_of_mem _ hy))]
    unfold gCnt
    rw [List.map_cons, List.countP_cons]
    congr 1
    by_cases c : x = v
    · simp [c]
    · have : ¬ zv_ os x = zv_ os v := fun q => c (zv_inj hw.1 hw.2.1 hw.2.2.2.2.1 (h x List.mem_cons_self) hv q)
      simp [c, this]
theorem hold_of {bx : List Int32 → Nat → Int32} {os : List Ob_} {R : Nat → Int32} {G : G_} {v : Int32} (hw : zo_wf os R) (h : zo_abs bx os R G.1 G.2.1) (hv : zo_Vo os v) : ∀ l : List Ob_, (∀ o ∈ l, o ∈ os ∧ zo_reach os R (oE o)) → ((l.map oI).map (gHold G (zv_ os v))).sum = (l.map (fun o => cntZ v (zo_kids o))).sum := by
  intro l
  induction l with
  | nil => intro _; rfl
  | cons o l ih =>
    intro hl
    have h1 := hl o List.mem_cons_self
    simp only [List.map_cons, List.sum_cons]
    rw [ih (fun x hx => hl x (List.mem_cons_of_mem _ hx))]
    congr 1
    unfold gHold
    rw [← h.2 o h1.1 h1.2, zo_ao_kids, cnt_zv hw hv _ (hw.2.2.1 o h1.1)]
theorem reg_cnt {bx : List Int32 → Nat → Int32} {os : List Ob_} {R : Nat → Int32} {G : G_} {v : Int32} (hw : zo_wf os R) (h : zo_abs bx os R G.1 G.2.1) (hv : zo_Vo os v) : gCnt (zv_ os v) ((List.range 32).map G.1) = cntZ v ((List.range 32).map R) := by
  rw [← cnt_zv hw hv _ (fun x hx => by obtain ⟨r, hr, rfl⟩ := List.mem_map.mp hx; exact hw.2.2.2.1 r (List.mem_range.mp hr)), List.map_map]
  congr 1
  exact List.map_congr_left (fun r hr => (h.1 r (List.mem_range.mp hr)).symm)
section CS
variable {nW nE D K : Nat} {os : List Ob_} {sl : List Nat} {G G' : G_} {R f P S ro rc : Nat → Int32} {us sc li rd st rn : Int32} {a b a1 a2 a3 c o_ w : Int32} {px : String → Prop} {ot : Nat → Int64}
theorem c_settle {post : (Nat → Int32) → Int32 → (Nat → Int32) → (Nat → Int32) → Int32 → (Nat → Int32) → Int32 → (Nat → Int32) → Int32 → Int32 → Prop} (hE : nE ≤ 8192) (hW : nW ≤ 65536) (hD : D + 1 < 2 ^ 31) (hc : c_core nW nE os sl D G R f P S ro st)
    (h : ∀ os' sl' D' f' P' S' rc' rn' ro', D' ≤ D + 1 → c_core nW nE os' sl' D' G R f' P' S' ro' 1 → (∀ o ∈ os', zo_reach os' R (oE o)) → post f' (nI (zo_row os').length) P' S' (nI sl'.length) rc' rn' ro' (nI D') 1) :
    wqM_settle nW nE R f (nI (zo_row os).length) P S (nI sl.length) rc rn ro (nI D) st post := by
  have hw := hc.wf hE
  obtain ⟨c1, c2, c3⟩ := hc
  refine sp_settle hE hW hD c1 c2 ?_
  intro g sl' D' f' P' S' rc' ro' rn' hg hD' hI
  obtain ⟨g1, g2, g3⟩ := zo_gc hw c3 hg
  exact h _ _ _ _ _ _ _ _ _ hD' ⟨hI, Or.inr ⟨rfl, g3⟩, g2⟩ g3
theorem cT_words {post : Int32 → (Nat → Int32) → Int32 → (Nat → Int32) → (Nat → Int32) → Int32 → (Nat → Int32) → Int32 → (Nat → Int32) → Int32 → Int32 → Prop} (hE : nE ≤ 8192) (hW : nW ≤ 65536) (hK : K + 1 < 2 ^ 31) (hc : c_rep nW nE K G R f us P S sc li ro rd st) (hA : A_words nW G o_)
    (h : ∀ f' us' P' S' sc' rc' rn' ro' rd' st', c_rep nW nE (K + 1) G R f' us' P' S' sc' li ro' rd' st' → post o_ f' us' P' S' sc' rc' rn' ro' rd' st') : wqT_words nW nE R f us P S sc rc rn ro rd st post := by
  unfold wqT_words
  obtain ⟨os, sl, D, rfl, rfl, e3, rfl, e5, e6, hc'⟩ := id hc
  refine c_settle hE hW (by omega) hc' ?_
  intro os' sl' D' f' P' S' rc' rn' ro' hD' hc2 hall
  unfold wqM_freeWords
  obtain ⟨l, hl, rfl⟩ := hA
  obtain ⟨g1, g2⟩ := g_all_eq (hc2.wf hE) hc2.2.2 hall
  rw [pk_sub hc2.1.1.2.1]
  rw [g_all_sum hl g1, g2] at h
  exact h _ _ _ _ _ _ _ _ _ _ ⟨os', sl', D', rfl, rfl, e3, rfl, by omega, by omega, hc2⟩
theorem cT_entries {post : Int32 → (Nat → Int32) → Int32 → (Nat → Int32) → (Nat → Int32) → Int32 → (Nat → Int32) → Int32 → (Nat → Int32) → Int32 → Int32 → Prop} (hE : nE ≤ 8192) (hW : nW ≤ 65536) (hK : K + 1 < 2 ^ 31) (hc : c_rep nW nE K G R f us P S sc li ro rd st) (hA : A_entries nE G o_)
    (h : ∀ f' us' P' S' sc' rc' rn' ro' rd' st', c_rep nW nE (K + 1) G R f' us' P' S' sc' li ro' rd' st' → post o_ f' us' P' S' sc' rc' rn' ro' rd' st') : wqT_entries nW nE R f us P S sc rc rn ro rd st post := by
  unfold wqT_entries
  obtain ⟨os, sl, D, rfl, rfl, e3, rfl, e5, e6, hc'⟩ := id hc
  refine c_settle hE hW (by omega) hc' ?_
  intro os' sl' D' f' P' S' rc' rn' ro' hD' hc2 hall
  unfold wqM_freeEntries
  obtain ⟨l, hl, rfl⟩ := hA
  obtain ⟨g1, g2⟩ := g_all_eq (hc2.wf hE) hc2.2.2 hall
  have h6 := hc2.1.2.2.2.2.2.1
  have hlen := g_all_len hl g1
  rw [List.length_map] at hlen
  have : nE - l.length = sl'.length := by omega
  rw [this] at h
  exact h _ _ _ _ _ _ _ _ _ _ ⟨os', sl', D', rfl, rfl, e3, rfl, by omega, by omega, hc2⟩
/-! the k-th object of a class -/
theorem sp_find_5 {v : Int32} {k : Nat} {post : Int32 → Prop} {kx : Int32 → Int32 → Prop} (hE : nE ≤ 8192) (hW : nW ≤ 65536) (hrep : zo_rep nW nE os f P) (hk : k < 2 ^ 31) (hkx : ∀ x y, post 0 → kx x y) :
    ∀ (rest pre : List Ob_) (t : Nat), os = pre ++ rest → t ≤ k → (∀ o, (rest.filter (fun o => decide (oC o = v)))[k - t]? = some o → post (ov_ (oE o))) → ((rest.filter (fun o => decide (oC o = v)))[k - t]? = none → post 0) →
      wqM_findOfClass_5 nW nE f (nI (zo_row os).length) v (nI k) post kx (rest.length + 1) (nI t) (nI (zo_row pre).length) := by
  intro rest
  have hlen := hrep.2.1
  induction rest with
  | nil =>
    intro pre t he ht h1 h2
    rw [List.append_nil] at he
    subst he
    unfold wqM_findOfClass_5
    exact ⟨fun _ => hkx _ _ (h2 (by simp)), fun q => absurd (nI_le (Nat.le_refl _) (by omega)) q⟩
  | cons o rest ih =>
    intro pre t he ht h1 h2
    have hrep' := hrep
    rw [he] at hrep'
    have hob := hrep'.ob hE hW
    have hm := hrep.2.2.2.1 o (by rw [he]; simp)
    have hcl := hob.cl
    have hen := hob.en
    obtain ⟨q1, q2, q3, q4, q5, q6, q7⟩ := id hob
    have hrow : (zo_row os).length = (zo_row pre).length + (4 + (oB o).length) + (zo_row rest).length := by
      rw [he, zo_row_app, List.length_append, show zo_row (o :: rest) = zo_flat o ++ zo_row rest from rfl, List.length_append, zo_flat_len]
      omega
    have hprel : (zo_row (pre ++ [o])).length = (zo_row pre).length + (4 + (oB o).length) := by rw [zo_row_snoc, List.length_append, zo_flat_len]
    unfold wqM_findOfClass_5
    refine ⟨fun z => absurd z (nI_ge (by omega) (by omega)), fun _ => ?_⟩
    rw [zi_2, zi_0]
    refine sp_word hW (by omega) ?_
    rw [hcl]
    refine ⟨fun cv => ⟨fun ck => ?_, fun ck => ?_⟩, fun cv => ?_⟩
    · rw [nI_eq (by omega) hk] at ck
      subst ck
      refine sp_word hW (by omega) ?_
      rw [hen]
      refine sp_ofEntry (h1 o ?_)
      rw [List.filter_cons, if_pos (by simp [cv]), Nat.sub_self]
      rfl
    · have htk : t ≠ k := fun q => ck (by rw [q])
      refine sp_bodyWordsAt (e := 0) (P := P) q3 (by omega) hW hm.2.2 ?_
      rw [← hm.2.1, zi_4', nI_add, zi_1, ← hprel]
      have hfil : (o :: rest).filter (fun o => decide (oC o = v)) = o :: rest.filter (fun o => decide (oC o = v)) := by rw [List.filter_cons, if_pos (by simp [cv])]
      rw [hfil] at h1 h2
      have hsh : ∀ l : List Ob_, (o :: l)[k - t]? = l[k - (t + 1)]? := by
        intro l
        rw [show k - t = k - (t + 1) + 1 by omega]
        rfl
      rw [hsh] at h2
      refine ih (pre ++ [o]) (t + 1) (by rw [he]; simp) (by omega) (fun x hx => h1 x (by rw [hsh]; exact hx)) h2
    · refine sp_bodyWordsAt (e := 0) (P := P) q3 (by omega) hW hm.2.2 ?_
      rw [← hm.2.1, zi_4', nI_add, ← hprel]
      have hfil : (o :: rest).filter (fun o => decide (oC o = v)) = rest.filter (fun o => decide (oC o = v)) := by rw [List.filter_cons, if_neg (by simp [cv])]
      rw [hfil] at h1 h2
      exact ih (pre ++ [o]) t (by rw [he]; simp) ht h1 h2
theorem cL_instance {pq : Int32 → (Nat → Int32) → (Nat → Int32) → Int32 → (Nat → Int32) → (Nat → Int32) → Int32 → (Nat → Int32) → Int32 → (Nat → Int32) → Int32 → Int32 → (Nat → Int64) → Prop} (hE : nE ≤ 8192) (hW : nW ≤ 65536) (hK : K + 1 < 2 ^ 31) (hc : c_rep nW nE K G R f us P S sc li ro rd st) (hA : A_instance G a1 a2 a3 c o_ G')
    (h : ∀ R' f' us' P' S' sc' rc' rn' ro' rd' st' ot', (c = 0 → ot' 0 = o_.toInt64) → c_rep nW nE (K + 1) G' R' f' us' P' S' sc' li ro' rd' st' → pq c R' f' us' P' S' sc' rc' rn' ro' rd' st' ot') :
    wqL_instance nW nE R f us P S sc rc rn ro rd st ot a1 a2 a3 pq := by
  unfold wqL_instance wqT_instance
  rcases hA with ⟨k, j, n, ls, hk, hj, hn, rfl, hls, rfl, hres⟩ | ⟨hn, rfl, rfl⟩
  · obtain ⟨os, sl, D, rfl, rfl, e3, rfl, e5, e6, hc'⟩ := id hc
    have h0 : 0 ≤ (nI n).toInt ∧ (nI n).toInt ≤ 2147483647 := by rw [nI_toInt hn]; omega
    refine sp_needReg_in hk (sp_needReg_in hj (sp_needBetween_in h0.1 h0.2 ?_))
    refine c_settle hE hW (by omega) hc' ?_
    intro os' sl' D' f' P' S' rc' rn' ro' hD' hc2 hall
    have hw := hc2.wf hE
    refine ⟨gReg_in hj, ?_⟩
    rw [gReg_cl hj]
    have hcl : ∀ o ∈ os', (G.2.1 (oI o)).1 = G.1 j ↔ oC o = R j := by
      intro o ho
      rw [ao_cl (hc2.2.2.2 o ho (hall o ho)), ← hc2.2.2.1 j hj.1]
      constructor
      · intro q
        exact zv_inj hw.1 hw.2.1 hw.2.2.2.2.1 (hw.2.2.1 o ho _ List.mem_cons_self) (hw.2.2.2.1 j hj.1) q
      · intro q; rw [q]
    have hlseq : ls = (os'.filter (fun o => decide (oC o = R j))).map oI := by
      refine srt_u _ _ hls.1 (hc2.1.2.2.2.2.2.2.1.sublist (List.filter_sublist.map oI)) ?_
      intro i
      rw [hls.2]
      constructor
      · rintro ⟨q1, q2⟩
        obtain ⟨o, ho, rfl, hro⟩ := g_to_zo hw hc2.2.2 q1
        exact List.mem_map_of_mem (List.mem_filter.mpr ⟨ho, decide_eq_true ((hcl o ho).mp q2)⟩)
      · intro q
        obtain ⟨o, ho, rfl⟩ := List.mem_map.mp q
        obtain ⟨ho1, ho2⟩ := List.mem_filter.mp ho
        exact ⟨zo_to_g hw hc2.2.2 ho1 (hall o ho1), (hcl o ho1).mpr (of_decide_eq_true ho2)⟩
    have hfin : ∀ G2 R2 st2, c_core nW nE os' sl' D' G2 R2 f' P' S' ro' st2 → G2.2.2 = G.2.2 → c_rep nW nE (K + 1) G2 R2 f' (nI (zo_row os').length) P' S' (nI sl'.length) li ro' (nI D') st2 := fun G2 R2 st2 q q2 => ⟨os', sl', D', rfl, rfl, by rw [q2]; exact e3, rfl, by rw [q2]; omega, by omega, q⟩
    unfold wqM_findOfClass
    refine ⟨os'.length + 1, ?_⟩
    have key := sp_find_5 (v := R j) (k := n) (post := fun r37 => (r37 = 0 → (vp_in (0 : Int32) 1 ∧ (pq (0 : Int32) R f' (nI (zo_row os').length) P' S' (nI sl'.length) rc' rn' ro' (nI D') 1 (vp_updL ot (0 : Int32).toNatClampNeg (0 : Int32).toInt64)))) ∧ (¬ (r37 = 0) → (wqT_setRegister nW nE R 1 a1 r37 (fun R_53 st_53 => wqM_identity nW nE f' P' r37 (fun r62 => vp_in (0 : Int32) 1 ∧ (pq (0 : Int32) R_53 f' (nI (zo_row os').length) P' S' (nI sl'.length) rc' rn' ro' (nI D') st_53 (vp_updL ot (0 : Int32).toNatClampNeg r62.toInt64))))))) (kx := fun _ _ => ((0 : Int32) = 0 → (vp_in (0 : Int32) 1 ∧ (pq (0 : Int32) R f' (nI (zo_row os').length) P' S' (nI sl'.length) rc' rn' ro' (nI D') 1 (vp_updL ot (0 : Int32).toNatClampNeg (0 : Int32).toInt64)))) ∧ (¬ ((0 : Int32) = 0) → (wqT_setRegister nW nE R 1 a1 0 (fun R_53 st_53 => wqM_identity nW nE f' P' 0 (fun r62 => vp_in (0 : Int32) 1 ∧ (pq (0 : Int32) R_53 f' (nI (zo_row os').length) P' S' (nI sl'.length) rc' rn' ro' (nI D') st_53 (vp_updL ot (0 : Int32).toNatClampNeg r62.toInt64))))))) hE hW hc2.1.1 hn (fun x y q => q) os' [] 0 rfl (by omega) ?_ ?_
    · exact key
    · intro o ho
      rw [Nat.sub_zero] at ho
      have hom := (List.mem_filter.mp (List.mem_of_getElem? ho)).1
      have hlsn : ls[n]? = some (oI o) := by rw [hlseq, List.getElem?_map, ho]; rfl
      rcases hres with ⟨i, q1, rfl, rfl⟩ | ⟨q1, -, -⟩
      · rw [hlsn] at q1
        have hio : oI o = i := Option.some.inj q1
        refine ⟨fun z => absurd z (ov_ne0 (hw.2.1 o hom)), fun _ => ?_⟩
        refine c_setReg hE hc2 hk ⟨Or.inr ⟨o, hom, rfl⟩, fun e hd => ?_⟩ ?_
        · rw [zo_dec_ov (hw.2.1 o hom)] at hd
          cases hd
          exact hall o hom
        · intro st2 hc3
          rw [zv_ov hw.1 hom (hw.2.1 o hom), hio] at hc3
          obtain ⟨pr, po, hpp⟩ := zo_split hom
          have hrep2 := hc2.1.1
          rw [hpp] at hrep2
          refine sp_identity (hrep2.ob hE hW) ⟨vp01, h _ _ _ _ _ _ _ _ _ _ _ _ (fun _ => ?_) (hfin _ _ _ hc3 rfl)⟩
          rw [ot_, hio]
      · rw [hlsn] at q1; cases q1
    · intro ho
      rw [Nat.sub_zero] at ho
      have hlsn : ls[n]? = none := by rw [hlseq, List.getElem?_map, ho]; rfl
      refine ⟨fun _ => ?_, fun z => absurd rfl z⟩
      rcases hres with ⟨i, q1, -, -⟩ | ⟨-, rfl, rfl⟩
      · rw [hlsn] at q1; cases q1
      · exact ⟨vp01, h _ _ _ _ _ _ _ _ _ _ _ _ (fun _ => ot_) (hfin _ _ _ hc2 rfl)⟩
  · have hfin := h R f us P S sc rc rn ro rd st ot (fun z => absurd z (by decide)) (hc.mono (by omega))
    by_cases q : ∃ k, gReg a1 k
    · obtain ⟨k, hk⟩ := id q
      refine sp_needReg_in hk ?_
      by_cases q2 : ∃ j, gReg a2 j
      · obtain ⟨j, hj⟩ := id q2
        refine sp_needReg_in hj (sp_needBetween_out ?_ ⟨rfl, hfin⟩)
        intro z
        have z1 : 0 ≤ a3.toInt := z.1
        have z2 : a3.toInt ≤ 2147483647 := z.2
        obtain ⟨n, hn1, hn2⟩ := (nI_ex (a := a3) (N := 2147483647) (by omega)).mpr ⟨z1, z2⟩
        exact hn ⟨q, q2, n, by omega, hn2⟩
      · exact sp_needReg_out q2 ⟨rfl, hfin⟩
    · exact sp_needReg_out q ⟨rfl, hfin⟩
/-! who holds a value -/
theorem sp_cnt_46 {v y3 : Int32} {post : Int32 → Prop} {kx : Int32 → Int32 → Prop} (hW : nW ≤ 65536) :
    ∀ (l : List Int32) (p t : Nat), zo_is f l p → p + l.length ≤ nW → (∀ x, kx (nI (t + cntZ v l)) x) → wqM_countHolders_46 nW nE f us v y3 (nI (p + l.length)) post kx (l.length + 1) (nI t) (nI p) := by
  intro l
  induction l with
  | nil =>
    intro p t hf hp hk
    unfold wqM_countHolders_46
    exact ⟨fun _ => hk _, fun q => absurd (nI_le (Nat.le_refl _) (by simp at hp ⊢; omega)) q⟩
  | cons x l ih =>
    intro p t hf hp hk
    simp only [List.length_cons] at hp ⊢
    unfold wqM_countHolders_46
    have h0 : f p = x := hf 0 x rfl
    have hf' : zo_is f l (p + 1) := by
      intro j y hj
      have := hf (j + 1) y (by simpa using hj)
      rw [← this]; congr 1; omega
    refine ⟨fun z => absurd z (nI_ge (by omega) (by omega)), fun _ => ?_⟩
    rw [nI_clamp (by omega), h0, zi_1, zi_1, show p + (l.length + 1) = p + 1 + l.length by omega]
    rw [cntZ_cons] at hk
    refine ⟨vp_in_nI (by omega) (by omega), fun cv => ?_, fun cv => ?_⟩
    · rw [if_pos cv] at hk
      exact ih (p + 1) (t + 1) hf' (by omega) (fun z => by rw [show t + 1 + cntZ v l = t + (cntZ v l + 1) by omega]; exact hk z)
    · rw [if_neg cv] at hk
      exact ih (p + 1) t hf' (by omega) hk
theorem sp_cnt_4 {v : Int32} {post : Int32 → Prop} {kx : Int32 → Int32 → Prop} (hE : nE ≤ 8192) (hW : nW ≤ 65536) (hrep : zo_rep nW nE os f P) :
    ∀ (rest pre : List Ob_) (t : Nat), os = pre ++ rest → (∀ x, kx (nI (t + (rest.map (fun o => cntZ v (zo_kids o))).sum)) x) →
      wqM_countHolders_4 nW nE f (nI (zo_row os).length) v post kx (rest.length + 1) (nI t) (nI (zo_row pre).length) := by
  intro rest
  have hlen := hrep.2.1
  induction rest with
  | nil =>
    intro pre t he hk
    rw [List.append_nil] at he
    subst he
    unfold wqM_countHolders_4
    exact ⟨fun _ => hk _, fun q => absurd (nI_le (Nat.le_refl _) (by omega)) q⟩
  | cons o rest ih =>
    intro pre t he hk
    have hrep' := hrep
    rw [he] at hrep'
    have hob := hrep'.ob hE hW
    have hm := hrep.2.2.2.1 o (by rw [he]; simp)
    have hcl := hob.cl
    obtain ⟨q1, q2, q3, q4, q5, q6, q7⟩ := id hob
    have hrow : (zo_row os).length = (zo_row pre).length + (4 + (oB o).length) + (zo_row rest).length := by
      rw [he, zo_row_app, List.length_append, show zo_row (o :: rest) = zo_flat o ++ zo_row rest from rfl, List.length_append, zo_flat_len]
      omega
    have hprel : (zo_row (pre ++ [o])).length = (zo_row pre).length + (4 + (oB o).length) := by rw [zo_row_snoc, List.length_append, zo_flat_len]
    have hsl := zo_slots_len o
    unfold wqM_countHolders_4
    refine ⟨fun z => absurd z (nI_ge (by omega) (by omega)), fun _ => ?_⟩
    rw [zi_2]
    refine sp_word hW (by omega) ?_
    rw [hcl]
    have hkc : cntZ v (zo_kids o) = cntZ v (zo_slots o) + if oC o = v then 1 else 0 := cntZ_cons _ _ _
    simp only [List.map_cons, List.sum_cons] at hk
    rw [hkc] at hk
    have step : ∀ t', t' + (rest.map (fun o => cntZ v (zo_kids o))).sum + cntZ v (zo_slots o) = t + (cntZ v (zo_slots o) + (if oC o = v then 1 else 0) + (rest.map (fun o => cntZ v (zo_kids o))).sum) → wqM_endOfSlots nW nE f (nI (zo_row pre).length) (fun r29 => ∃ k_39, wqM_countHolders_46 nW nE f (nI (zo_row os).length) v (nI (zo_row pre).length) (if (nI nW) < r29 then (nI nW) else r29) post (fun z2_39 z5_39 => wqM_bodyWordsAt nW nE f (nI (zo_row pre).length) (fun r70 => wqM_countHolders_4 nW nE f (nI (zo_row os).length) v post kx (rest.length + 1) z2_39 (nI (zo_row pre).length + ((4 : Int32) + r70)))) k_39 (nI t') (nI (zo_row pre).length + (4 : Int32))) := by
      intro t' ht'
      refine sp_endOfSlots hob hm.2.1 ⟨(zo_slots o).length + 1, ?_⟩
      rw [zi_4, zi_min (by omega) (by omega)]
      refine sp_cnt_46 hW (zo_slots o) _ _ hob.sl (by omega) ?_
      intro x
      refine sp_bodyWordsAt (e := 0) (P := P) q3 (by omega) hW hm.2.2 ?_
      rw [← hm.2.1, zi_4', nI_add, ← hprel]
      refine ih (pre ++ [o]) _ (by rw [he]; simp) (fun y => ?_)
      rw [show t' + cntZ v (zo_slots o) + (rest.map (fun o => cntZ v (zo_kids o))).sum = t + (cntZ v (zo_slots o) + (if oC o = v then 1 else 0) + (rest.map (fun o => cntZ v (zo_kids o))).sum) by omega]
      exact hk y
    refine ⟨fun cv => ?_, fun cv => ?_⟩
    · rw [zi_1]
      exact step (t + 1) (by rw [if_pos cv]; omega)
    · exact step t (by rw [if_neg cv]; omega)
theorem cL_owners {pq : Int32 → (Nat → Int32) → Int32 → (Nat → Int32) → (Nat → Int32) → Int32 → (Nat → Int32) → Int32 → (Nat → Int32) → Int32 → Int32 → (Nat → Int64) → Prop} (hE : nE ≤ 8192) (hW : nW ≤ 65536) (hK : K + 1 < 2 ^ 31) (hc : c_rep nW nE K G R f us P S sc li ro rd st) (hA : A_owners G a c o_ G')
    (h : ∀ f' us' P' S' sc' rc' rn' ro' rd' st' ot', (c = 0 → ot' 0 = o_.toInt64) → c_rep nW nE (K + 1) G' R f' us' P' S' sc' li ro' rd' st' → pq c f' us' P' S' sc' rc' rn' ro' rd' st' ot') :
    wqL_owners nW nE R f us P S sc rc rn ro rd st ot a pq := by
  unfold wqL_owners wqT_owners
  rcases hA with ⟨k, l, hk, hl, rfl, rfl, rfl⟩ | ⟨hn, rfl, rfl⟩
  · obtain ⟨os, sl, D, rfl, rfl, e3, rfl, e5, e6, hc'⟩ := id hc
    refine sp_needReg_in hk ⟨gReg_in hk, ?_⟩
    rw [gReg_cl hk]
    refine c_settle hE hW (by omega) hc' ?_
    intro os' sl' D' f' P' S' rc' rn' ro' hD' hc2 hall
    have hw := hc2.wf hE
    obtain ⟨g1, g2⟩ := g_all_eq hw hc2.2.2 hall
    have hv := hw.2.2.2.1 k hk.1
    have hsum : (l.map (gHold G' (G'.1 k))).sum + gCnt (G'.1 k) ((List.range 32).map G'.1) = (os'.map (fun o => cntZ (R k) (zo_kids o))).sum + cntZ (R k) ((List.range 32).map R) := by
      rw [← hc2.2.2.1 k hk.1, g_all_sum hl g1, hold_of hw hc2.2.2 hv os' (fun o ho => ⟨ho, hall o ho⟩), reg_cnt hw hc2.2.2 hv]
    rw [hsum] at h
    have hfin : c_rep nW nE (K + 1) G' R f' (nI (zo_row os').length) P' S' (nI sl'.length) li ro' (nI D') 1 := ⟨os', sl', D', rfl, rfl, e3, rfl, by omega, by omega, hc2⟩
    unfold wqM_countHolders
    refine ⟨os'.length + 1, ?_⟩
    refine sp_cnt_4 hE hW hc2.1.1 os' [] 0 rfl ?_
    intro x
    rw [Nat.zero_add]
    refine ⟨33, ?_⟩
    have loop : ∀ (m s : Nat), s + m = 32 → wqT_owners_45 nW nE R a (R k) (nI 32) f' (nI (zo_row os').length) P' S' (nI sl'.length) rc' rn' ro' (nI D') 1 (fun r4 f_4 us_4 P_4 S_4 sc_4 rc_4 rn_4 ro_4 rd_4 st_4 => vp_in (0 : Int32) 1 ∧ (pq (0 : Int32) f_4 us_4 P_4 S_4 sc_4 rc_4 rn_4 ro_4 rd_4 st_4 (vp_updL ot (0 : Int32).toNatClampNeg r4.toInt64))) (fun E f_4 us_4 P_4 S_4 sc_4 rc_4 rn_4 ro_4 rd_4 st_4 => (E = "java/lang/IllegalArgumentException" ∧ (pq (1 : Int32) f_4 us_4 P_4 S_4 sc_4 rc_4 rn_4 ro_4 rd_4 st_4 ot)))
        (fun z3 z6 => vp_in (0 : Int32) 1 ∧ (pq (0 : Int32) f' (nI (zo_row os').length) P' S' (nI sl'.length) rc' rn' ro' (nI D') 1 (vp_updL ot (0 : Int32).toNatClampNeg z3.toInt64))) (m + 1) (nI ((os'.map (fun o => cntZ (R k) (zo_kids o))).sum + cntZ (R k) ((List.range s).map R))) (nI s) := by
      intro m
      induction m with
      | zero =>
        intro s hs
        unfold wqT_owners_45
        have : s = 32 := by omega
        subst this
        exact ⟨fun _ => ⟨vp01, h _ _ _ _ _ _ _ _ _ _ _ (fun _ => ot_) hfin⟩, fun q => absurd (nI_le (Nat.le_refl _) (by omega)) q⟩
      | succ m ih =>
        intro s hs
        unfold wqT_owners_45
        refine ⟨fun z => absurd z (nI_ge (by omega) (by omega)), fun _ => ?_⟩
        rw [nI_clamp (by omega), zi_1, zi_1]
        have hstep : cntZ (R k) ((List.range (s + 1)).map R) = cntZ (R k) ((List.range s).map R) + if R s = R k then 1 else 0 := by
          rw [List.range_succ, List.map_append]
          unfold cntZ
          rw [List.countP_append]
          simp
        have := ih (s + 1) (by omega)
        rw [hstep] at this
        refine ⟨vp_in_nI (by omega) (by omega), fun cv => ?_, fun cv => ?_⟩
        · rw [if_pos cv, ← Nat.add_assoc] at this
          exact this
        · rw [if_neg cv] at this
          exact this
    exact loop 32 0 (by omega)
  · exact sp_needReg_out hn ⟨rfl, h _ _ _ _ _ _ _ _ _ _ _ (fun z => absurd z (by decide)) (hc.mono (by omega))⟩
end CS

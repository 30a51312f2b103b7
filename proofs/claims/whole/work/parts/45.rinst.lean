/-! the reference's owners and instance -/
section RE
variable {nW nE L hi : Nat} {os : List Ob_} {cs : Nat → List Nat} {fl : List Nat} {G G' : G_} {mR mI mC mY mZ mF mL mN mX mT : Nat → Int32} {mfr mcd mwd men mmd mhi mct mtk : Int32} {a b a1 a2 a3 c o_ : Int32}
theorem sr_own_122 {y1 y2 y4 mcd0 mtk0 : Int32} {mXf mTf : Nat → Int32} {mctf : Int32} {p : Nat} {post : Int32 → Int32 → (Nat → Int32) → (Nat → Int32) → Int32 → Int32 → Prop} {kx : Int32 → Int32 → Prop} (hp : p < 8192) (hY : mY p = 0) :
    ∀ (ys : List Nat) (v : Int32) (t : Nat), zc_ch mN v ys → (∀ y ∈ ys, y < 65536) → (∀ z, kx (nI (t + cntZ y2 (ys.map mL))) z) → wqR_owners_122 men mR mC mY mZ mF mL mN y1 y2 y4 (nI p) mcd0 mXf mTf mctf mtk0 post kx (ys.length + 1) (nI t) v := by
  intro ys
  induction ys with
  | nil =>
    intro v t hch _ hk
    unfold wqR_owners_122
    rw [show v = -1 from hch]
    exact ⟨fun _ => hk _, fun z => absurd (by decide) z⟩
  | cons y ys ih =>
    intro v t hch hlt hk
    obtain ⟨h1, h2⟩ := hch
    have hy := hlt y List.mem_cons_self
    unfold wqR_owners_122
    rw [h1, nI_clamp (n := p) (by omega), nI_clamp (n := y) (by omega), zi_1]
    rw [List.map_cons, cntZ_cons] at hk
    refine ⟨fun z => absurd z (nI_pos (by omega)), fun _ => ⟨vp_in_nI hp (by omega), fun _ => ⟨vp_in_nI hy (by omega), fun cv => ⟨vp_in_nI hy (by omega), ?_⟩, fun cv => ⟨vp_in_nI hy (by omega), ?_⟩⟩, fun z => absurd hY z⟩⟩
    · rw [if_pos cv] at hk
      exact ih (mN y) (t + 1) h2 (fun z hz => hlt z (List.mem_cons_of_mem _ hz)) (fun z => by rw [show t + 1 + cntZ y2 (ys.map mL) = t + (cntZ y2 (ys.map mL) + 1) by omega]; exact hk z)
    · rw [if_neg cv] at hk
      exact ih (mN y) t h2 (fun z hz => hlt z (List.mem_cons_of_mem _ hz)) hk
theorem rR_owners {pq : Int32 → Int32 → (Nat → Int32) → (Nat → Int32) → Int32 → Int32 → Prop} (hE : nE ≤ 8192) (hW : nW ≤ 65536) (hc : r_rep nW nE G mwd men mR mI mC mY mZ mF mmd mhi mL mN mfr) (hA : A_owners G a c o_ G')
    (h : ∀ b mX' mT' mct' mtk', (c = 0 → b = o_) → r_rep nW nE G' mwd men mR mI mC mY mZ mF mmd mhi mL mN mfr → pq b c mX' mT' mct' mtk') : wqR_owners mcd men mR mC mY mZ mF mL mN mX mT mct mtk a pq := by
  obtain ⟨e1, rfl, e3, os, cs, fl, hi, e4, hc'⟩ := id hc
  unfold wqR_owners wqR_owners_16
  rcases hA with ⟨k, l, hk, hl, rfl, rfl, rfl⟩ | ⟨hn, rfl, rfl⟩
  · refine sr_isReg_in hk ⟨fun z => absurd z (by decide), fun _ => ⟨fun _ => ?_, fun z => absurd (by decide) z⟩⟩
    refine sr_reach hE hW hc' ?_
    intro rl mX' mT' hM h1 h2
    obtain ⟨c1, c2, c3, c4⟩ := id hc'
    obtain ⟨g1, g2⟩ := r_all c1 c2 hM.2.2.1 h1 h2
    have hv := c1.2.2.2.1 k hk.1
    have hlen : rl.length ≤ nE := zo_pigeon nE rl hM.2.2.1 hM.2.2.2.1
    have hsum : (l.map (gHold G' (G'.1 k))).sum + gCnt (G'.1 k) ((List.range 32).map G'.1) = cntZ (mR k) ((List.range 32).map mR) + (rl.map (zo_fn os (fun o => cntZ (mR k) (zo_kids o)))).sum := by
      rw [← c2.1 k hk.1, g_all_sum hl g1, reg_cnt c1 c2 hv, Nat.add_comm]
      congr 1
      rw [List.map_map]
      congr 1
      refine List.map_congr_left (fun x hx => ?_)
      obtain ⟨o, ho, rfl⟩ := h2 x hx
      show gHold G' (zv_ os (mR k)) (zo_idof os (oE o)) = zo_fn os (fun o => cntZ (mR k) (zo_kids o)) (oE o)
      rw [zo_idof_of c1.1 ho, zo_fn_of c1.1 ho]
      unfold gHold
      rw [← c2.2 o ho ((h1 _).mp hx), zo_ao_kids, cnt_zv c1 hv _ (c1.2.2.1 o ho)]
    rw [hsum] at h
    refine ⟨gReg_in hk, 33, ?_⟩
    rw [gReg_cl hk]
    have loop2 : ∀ (m t : Nat), t + m = rl.length → wqR_owners_76 (nI nE) mR mC mY mZ mF mL mN a (mR k) 0 mX' mT' (nI rl.length) (nI ((rl.map (zo_wt os)).sum)) pq (fun z3_76 z4_76 => pq z3_76 0 mX' mT' (nI rl.length) (nI ((rl.map (zo_wt os)).sum))) (m + 1) (nI (cntZ (mR k) ((List.range 32).map mR) + ((rl.take t).map (zo_fn os (fun o => cntZ (mR k) (zo_kids o)))).sum)) (nI t) := by
      intro m
      induction m with
      | zero =>
        intro t ht
        unfold wqR_owners_76
        have : t = rl.length := by omega
        subst this
        rw [List.take_length]
        exact ⟨fun _ => h _ _ _ _ _ (fun _ => rfl) hc, fun z => absurd (nI_le (Nat.le_refl _) (by omega)) z⟩
      | succ m ih =>
        intro t ht
        unfold wqR_owners_76
        refine ⟨fun z => absurd z (nI_ge (by omega) (by omega)), fun _ => ?_⟩
        have htl : t < rl.length := by omega
        obtain ⟨o, ho, hoe⟩ := h2 (rl[t]) (List.getElem_mem htl)
        have hx : rl[t]? = some (oE o) := by rw [List.getElem?_eq_getElem htl, hoe]
        have hT : mT' t = nI (oE o) := by
          have := hM.2.1 t (nI (oE o)) (by rw [List.getElem?_map, hx]; rfl)
          simpa using this
        obtain ⟨q1, q2, q3, q4, q5, q6, q7, q8, q9⟩ := c3.1 o ho
        have hvp : vp_in (nI (oE o)) 8192 := vp_in_nI (by omega) (by omega)
        rw [nI_clamp (by omega), hT, nI_clamp (n := oE o) (by omega), q5]
        have hnext : ((rl.take (t + 1)).map (zo_fn os (fun o => cntZ (mR k) (zo_kids o)))).sum = ((rl.take t).map (zo_fn os (fun o => cntZ (mR k) (zo_kids o)))).sum + (cntZ (mR k) (zo_slots o) + if oC o = mR k then 1 else 0) := by
          rw [List.take_add_one, hx]
          simp only [Option.toList_some, List.map_append, List.map_cons, List.map_nil, List.sum_append, List.sum_cons, List.sum_nil, Nat.add_zero]
          rw [zo_fn_of c1.1 ho]
          show _ + cntZ (mR k) (oC o :: zo_slots o) = _
          rw [cntZ_cons]
        have step : ∀ s, s = cntZ (mR k) ((List.range 32).map mR) + ((rl.take t).map (zo_fn os (fun o => cntZ (mR k) (zo_kids o)))).sum + (if oC o = mR k then 1 else 0) → ∃ k_122, wqR_owners_122 (nI nE) mR mC mY mZ mF mL mN a (mR k) (nI t) (nI (oE o)) 0 mX' mT' (nI rl.length) (nI ((rl.map (zo_wt os)).sum)) pq (fun z3_122 z6_122 => wqR_owners_76 (nI nE) mR mC mY mZ mF mL mN a (mR k) 0 mX' mT' (nI rl.length) (nI ((rl.map (zo_wt os)).sum)) pq (fun z3_76 z4_76 => pq z3_76 0 mX' mT' (nI rl.length) (nI ((rl.map (zo_wt os)).sum))) (m + 1) z3_122 (nI t + 1)) k_122 (nI s) (mF (oE o)) := by
          intro s hs
          have cont := ih (t + 1) (by omega)
          rw [hnext] at cont
          rcases (show oH o % 2 = 1 ∨ oH o % 2 = 0 by omega) with cc | cc
          · refine ⟨1, ?_⟩
            rw [sl_odd cc] at cont
            have hs2 : cntZ (mR k) ((List.range 32).map mR) + (((rl.take t).map (zo_fn os (fun o => cntZ (mR k) (zo_kids o)))).sum + (cntZ (mR k) [] + if oC o = mR k then 1 else 0)) = s := by
              rw [hs]
              show _ + (_ + (0 + _)) = _
              omega
            rw [hs2] at cont
            unfold wqR_owners_122
            rw [nI_clamp (n := oE o) (by omega), q6, cc, zi_1]
            exact ⟨fun _ => cont, fun _ => ⟨hvp, fun z => absurd z (by decide), fun _ => cont⟩⟩
          · refine ⟨(cs (oE o)).length + 1, ?_⟩
            refine sr_own_122 (by omega) (by rw [q6, cc]; rfl) (cs (oE o)) _ s q8 (fun y hy => by have := r_clt c3.2.2.2 ho hy; omega) ?_
            intro z
            rw [q9, zi_1]
            rw [sl_of cc] at cont
            have hs2 : cntZ (mR k) ((List.range 32).map mR) + (((rl.take t).map (zo_fn os (fun o => cntZ (mR k) (zo_kids o)))).sum + (cntZ (mR k) (oB o) + if oC o = mR k then 1 else 0)) = s + cntZ (mR k) (oB o) := by
              rw [hs]
              omega
            rw [hs2] at cont
            exact cont
        refine ⟨vp_in_nI (by omega) (by omega), hvp, fun cv => ⟨hvp, ?_⟩, fun cv => ⟨hvp, ?_⟩⟩
        · have hst := step (cntZ (mR k) ((List.range 32).map mR) + ((rl.take t).map (zo_fn os (fun o => cntZ (mR k) (zo_kids o)))).sum + 1) (by rw [if_pos cv])
          rw [← zi_1] at hst
          exact hst
        · exact step _ (by rw [if_neg cv]; rfl)
    have loop1 : ∀ (m s : Nat), s + m = 32 → wqR_owners_41 (nI nE) mR mC mY mZ mF mL mN a (mR k) 0 mX' mT' (nI rl.length) (nI ((rl.map (zo_wt os)).sum)) pq (fun z3_41 z4_41 => ∃ k_76, wqR_owners_76 (nI nE) mR mC mY mZ mF mL mN a (mR k) 0 mX' mT' (nI rl.length) (nI ((rl.map (zo_wt os)).sum)) pq (fun z3_76 z4_76 => pq z3_76 0 mX' mT' (nI rl.length) (nI ((rl.map (zo_wt os)).sum))) k_76 z3_41 0) (m + 1) (nI (cntZ (mR k) ((List.range s).map mR))) (nI s) := by
      intro m
      induction m with
      | zero =>
        intro s hs
        unfold wqR_owners_41
        have : s = 32 := by omega
        subst this
        refine ⟨fun _ => ⟨rl.length + 1, ?_⟩, fun z => absurd (by decide) z⟩
        exact loop2 rl.length 0 (by omega)
      | succ m ih =>
        intro s hs
        unfold wqR_owners_41
        refine ⟨fun z => absurd z (nI_ge (b := 32) (by omega) (by omega)), fun _ => ?_⟩
        rw [nI_clamp (by omega), zi_1, zi_1]
        have hstep : cntZ (mR k) ((List.range (s + 1)).map mR) = cntZ (mR k) ((List.range s).map mR) + if mR s = mR k then 1 else 0 := by
          rw [List.range_succ, List.map_append]
          unfold cntZ
          rw [List.countP_append]
          simp
        have := ih (s + 1) (by omega)
        rw [hstep] at this
        refine ⟨vp_in_nI (by omega) (by omega), fun cv => ?_, fun cv => ?_⟩
        · rw [if_pos cv] at this
          exact this
        · rw [if_neg cv] at this
          exact this
    exact loop1 32 0 (by omega)
  · exact sr_isReg_out hn ⟨fun _ => ⟨fun z => absurd z (by decide), fun _ => h _ _ _ _ _ (fun z => absurd z (by decide)) hc⟩, fun z => absurd rfl z⟩
/-! the k-th object of a class -/
theorem srt_next {ls : List Nat} {n b : Nat} (hs : ls.Pairwise (· < ·)) (h1 : ∀ m i, m < n → ls[m]? = some i → i ≤ b) (h2 : ∀ m i, n ≤ m → ls[m]? = some i → b < i) :
    ((∀ i ∈ ls, ¬ b < i) → ls[n]? = none) ∧ (∀ x ∈ ls, b < x → (∀ i ∈ ls, b < i → x ≤ i) → ls[n]? = some x ∧ (∀ m i, m < n + 1 → ls[m]? = some i → i ≤ x) ∧ (∀ m i, n + 1 ≤ m → ls[m]? = some i → x < i)) := by
  have hlt : ∀ (p q i j : Nat), p < q → ls[p]? = some i → ls[q]? = some j → i < j := by
    intro p q i j hpq hi hj
    obtain ⟨pl, rfl⟩ := List.getElem?_eq_some_iff.mp hi
    obtain ⟨ql, rfl⟩ := List.getElem?_eq_some_iff.mp hj
    exact List.pairwise_iff_getElem.mp hs p q pl ql hpq
  refine ⟨fun h => ?_, fun x hx hbx hmin => ?_⟩
  · cases hq : ls[n]? with
    | none => rfl
    | some i => exact absurd (h2 n i (Nat.le_refl _) hq) (h i (List.mem_of_getElem? hq))
  · obtain ⟨m, hm⟩ := List.getElem?_of_mem hx
    have hnm : n ≤ m := by
      rcases Nat.lt_or_ge m n with q | q
      · have := h1 m x q hm
        omega
      · exact q
    have hmn : m = n := by
      rcases Nat.lt_or_ge n m with q | q
      · have hml := (List.getElem?_eq_some_iff.mp hm).1
        have hn : ls[n]? = some (ls[n]'(by omega)) := List.getElem?_eq_getElem _
        have h3 := hmin _ (List.mem_of_getElem? hn) (h2 n _ (Nat.le_refl _) hn)
        have h4 := hlt n m _ _ q hn hm
        omega
      · omega
    subst hmn
    refine ⟨hm, fun p i hp hi => ?_, fun p i hp hi => hlt m p x i (by omega) hm hi⟩
    rcases Nat.lt_or_ge p m with q | q
    · exact Nat.le_of_lt (hlt p m i x q hi hm)
    · have : p = m := by omega
      subst this
      rw [hm] at hi
      exact Nat.le_of_eq (Option.some.inj hi).symm
def bI_ (o : Option Ob_) : Int32 := match o with
  | none => -1
  | some o => nI (oE o)
theorem sr_nextOf {rl : List Nat} {v : Int32} {b : Nat} {post : Int32 → Prop} (hE : nE ≤ 8192) (hL : L < 2 ^ 31) (hw : zo_wf os mR) (hm : r_mem nW nE L os cs fl mI mC mY mZ mF mL mN mfr) (hM : zo_M nE 1 rl mT (nI rl.length) mX) (h2 : ∀ e ∈ rl, ∃ o ∈ os, oE o = e) (hb : b < 2 ^ 31)
    (hno : (∀ o ∈ os, oE o ∈ rl → oC o = v → ¬ b < oI o) → post (-1)) (hyes : ∀ o ∈ os, oE o ∈ rl → oC o = v → b < oI o → (∀ o' ∈ os, oE o' ∈ rl → oC o' = v → b < oI o' → oI o ≤ oI o') → post (nI (oE o))) : wqR_nextOf mI mC mT (nI rl.length) v (nI b) post := by
  have hlen : rl.length ≤ nE := zo_pigeon nE rl hM.2.2.1 hM.2.2.2.1
  unfold wqR_nextOf
  refine ⟨rl.length + 1, ?_⟩
  have loop : ∀ (m t : Nat) (bo : Option Ob_), t + m = rl.length → (bo = none → ∀ o ∈ os, oE o ∈ rl.take t → oC o = v → ¬ b < oI o) → (∀ o, bo = some o → o ∈ os ∧ oE o ∈ rl ∧ oC o = v ∧ b < oI o ∧ ∀ o' ∈ os, oE o' ∈ rl.take t → oC o' = v → b < oI o' → oI o ≤ oI o') →
      wqR_nextOf_5 mI mC mT (nI rl.length) v (nI b) post (fun z3_5 z4_5 => post z3_5) (m + 1) (bI_ bo) (nI t) := by
    intro m
    induction m with
    | zero =>
      intro t bo ht i1 i2
      have : t = rl.length := by omega
      subst this
      rw [List.take_length] at i1 i2
      unfold wqR_nextOf_5
      refine ⟨fun _ => ?_, fun z => absurd (nI_le (Nat.le_refl _) (by omega)) z⟩
      cases bo with
      | none => exact hno (i1 rfl)
      | some o =>
        obtain ⟨q1, q2, q3, q4, q5⟩ := i2 o rfl
        exact hyes o q1 q2 q3 q4 q5
    | succ m ih =>
      intro t bo ht i1 i2
      have htl : t < rl.length := by omega
      obtain ⟨o, ho, hoe⟩ := h2 (rl[t]) (List.getElem_mem htl)
      have hx : rl[t]? = some (oE o) := by rw [List.getElem?_eq_getElem htl, hoe]
      have hor : oE o ∈ rl := List.mem_of_getElem? hx
      have hT : mT t = nI (oE o) := by
        have := hM.2.1 t (nI (oE o)) (by rw [List.getElem?_map, hx]; rfl)
        simpa using this
      obtain ⟨q1, q2, q3, q4, q5, q6, q7, q8, q9⟩ := hm.1 o ho
      have hvp : vp_in (nI (oE o)) 8192 := vp_in_nI (by omega) (by omega)
      have htk : ∀ o' ∈ os, oE o' ∈ rl.take (t + 1) → oE o' ∈ rl.take t ∨ o' = o := by
        intro o' ho' hin
        rw [List.take_add_one, hx] at hin
        rcases List.mem_append.mp hin with z | z
        · exact Or.inl z
        · simp at z
          exact Or.inr (zo_one hw.1 ho' ho z)
      -- o isn't a better one: the best stays
      have keep : (oC o = v → b < oI o → ∃ o2, bo = some o2 ∧ oI o2 ≤ oI o) → wqR_nextOf_5 mI mC mT (nI rl.length) v (nI b) post (fun z3_5 z4_5 => post z3_5) (m + 1) (bI_ bo) (nI t + 1) := by
        intro hk
        rw [zi_1]
        refine ih (t + 1) bo (by omega) ?_ ?_
        · intro hbo o' ho' hin hc' hlt
          rcases htk o' ho' hin with z | z
          · exact i1 hbo o' ho' z hc' hlt
          · subst z
            obtain ⟨o2, h3, -⟩ := hk hc' hlt
            rw [hbo] at h3
            cases h3
        · intro o2 hbo
          obtain ⟨p1, p2, p3, p4, p5⟩ := i2 o2 hbo
          refine ⟨p1, p2, p3, p4, ?_⟩
          intro o' ho' hin hc' hlt
          rcases htk o' ho' hin with z | z
          · exact p5 o' ho' z hc' hlt
          · subst z
            obtain ⟨o3, h3, h4⟩ := hk hc' hlt
            rw [hbo] at h3
            cases h3
            exact h4
      -- o is the better one
      have take : oC o = v → b < oI o → (∀ o2, bo = some o2 → oI o ≤ oI o2) → wqR_nextOf_5 mI mC mT (nI rl.length) v (nI b) post (fun z3_5 z4_5 => post z3_5) (m + 1) (nI (oE o)) (nI t + 1) := by
        intro hcv hlt hbest
        rw [zi_1]
        refine ih (t + 1) (some o) (by omega) (fun z => by cases z) ?_
        intro o2 hbo
        cases hbo
        refine ⟨ho, hor, hcv, hlt, ?_⟩
        intro o' ho' hin hc' hlt'
        rcases htk o' ho' hin with z | z
        · cases hbo : bo with
          | none => exact absurd hlt' (i1 hbo o' ho' z hc')
          | some o2 =>
            have h3 := (i2 o2 hbo).2.2.2.2 o' ho' z hc' hlt'
            have h4 := hbest o2 hbo
            omega
        · rw [z]; exact Nat.le_refl _
      unfold wqR_nextOf_5
      refine ⟨fun z => absurd z (nI_ge (by omega) (by omega)), fun _ => ?_⟩
      rw [nI_clamp (by omega), hT, nI_clamp (n := oE o) (by omega), q5, q4]
      refine ⟨vp_in_nI (by omega) (by omega), hvp, fun cv => ⟨hvp, fun cb => ?_, fun cb => ?_⟩, fun cv => ?_⟩
      · rw [nI_leI (by omega) hb] at cb
        exact ⟨fun _ => keep (fun _ z => by omega), fun z => absurd rfl z⟩
      · rw [nI_leI (by omega) hb] at cb
        refine ⟨fun z => absurd z (by decide), fun _ => ?_⟩
        cases hbo : bo with
        | none =>
          refine ⟨fun _ => take cv (by omega) (fun o2 h3 => by rw [hbo] at h3; cases h3), fun z => absurd (by decide) z⟩
        | some o2 =>
          obtain ⟨p1, p2, p3, p4, p5⟩ := i2 o2 hbo
          obtain ⟨r1, r2, r3, r4, r5, r6, r7, r8, r9⟩ := hm.1 o2 p1
          have hb2 : bI_ (some o2) = nI (oE o2) := rfl
          rw [hbo, hb2] at keep
          rw [hb2, nI_clamp (n := oE o2) (by omega), r4]
          refine ⟨fun z => absurd z (nI_pos (by omega)), fun _ => ⟨hvp, vp_in_nI (by omega) (by omega), fun z => ?_, fun z => ?_⟩⟩
          · rw [nI_leI (by omega) (by omega)] at z
            exact keep (fun _ _ => ⟨o2, rfl, z⟩)
          · rw [nI_leI (by omega) (by omega)] at z
            exact take cv (by omega) (fun o3 h3 => by rw [hbo] at h3; cases h3; omega)
      · exact ⟨fun _ => keep (fun z _ => absurd z cv), fun z => absurd rfl z⟩
  have := loop rl.length 0 none (by omega) (fun _ o ho hin => by simp at hin) (fun o h => by cases h)
  exact this
theorem rR_instance {pq : Int32 → Int32 → (Nat → Int32) → (Nat → Int32) → (Nat → Int32) → Int32 → Int32 → Prop} (hE : nE ≤ 8192) (hW : nW ≤ 65536) (hL : G.2.2 < 2 ^ 31) (hc : r_rep nW nE G mwd men mR mI mC mY mZ mF mmd mhi mL mN mfr) (hA : A_instance G a1 a2 a3 c o_ G')
    (h : ∀ b mR' mX' mT' mct' mtk', (c = 0 → b = o_) → r_rep nW nE G' mwd men mR' mI mC mY mZ mF mmd mhi mL mN mfr → pq b c mR' mX' mT' mct' mtk') : wqR_instance mcd men mR mI mC mY mZ mF mL mN mX mT mct mtk a1 a2 a3 pq := by
  obtain ⟨e1, rfl, e3, os, cs, fl, hi, e4, hc'⟩ := id hc
  unfold wqR_instance
  rcases hA with ⟨k, j, n, ls, hk, hj, hn, rfl, hls, rfl, hres⟩ | ⟨hn, rfl, rfl⟩
  · refine sr_isReg_in hk ⟨fun z => absurd z (by decide), fun _ => sr_isReg_in hj ⟨fun z => absurd z (by decide), fun _ => ⟨fun z => absurd z (nI_pos hn), fun _ => ?_⟩⟩⟩
    unfold wqR_instance_27
    refine ⟨fun _ => ?_, fun z => absurd (by decide) z⟩
    refine sr_reach hE hW hc' ?_
    intro rl mX' mT' hM h1 h2
    obtain ⟨c1, c2, c3, c4⟩ := id hc'
    obtain ⟨g1, g2⟩ := r_all c1 c2 hM.2.2.1 h1 h2
    have hlen : rl.length ≤ nE := zo_pigeon nE rl hM.2.2.1 hM.2.2.2.1
    have hlsl : ls.length ≤ rl.length := by
      have h3 : ∀ i ∈ ls, i ∈ rl.map (zo_idof os) := fun i hi => (g1.2 i).mpr ((hls.2 i).mp hi).1
      have h4 : ls.Nodup := hls.1.imp (fun hab => by omega)
      have key : ∀ (x y : List Nat), x.Nodup → (∀ i ∈ x, i ∈ y) → x.length ≤ y.length := by
        intro x
        induction x with
        | nil => intro y _ _; simp
        | cons a x ih =>
          intro y hx hy
          rw [List.nodup_cons] at hx
          have ha := hy a List.mem_cons_self
          have := ih (y.erase a) hx.2 (fun i hi => (List.mem_erase_of_ne (fun (e : i = a) => hx.1 (by rw [← e]; exact hi))).mpr (hy i (List.mem_cons_of_mem _ hi)))
          rw [List.length_erase_of_mem ha] at this
          have : 0 < y.length := List.length_pos_of_mem ha
          simp
          omega
      have := key ls _ h4 h3
      rwa [List.length_map] at this
    have hmatch : ∀ o ∈ os, oE o ∈ rl → (oI o ∈ ls ↔ oC o = mR j) := by
      intro o ho hin
      have hr := (h1 _).mp hin
      rw [hls.2, ao_cl (c2.2 o ho hr), ← c2.1 j hj.1]
      constructor
      · rintro ⟨-, q⟩
        exact zv_inj c1.1 c1.2.1 c1.2.2.2.2.1 (c1.2.2.1 o ho _ List.mem_cons_self) (c1.2.2.2.1 j hj.1) q
      · intro q
        exact ⟨zo_to_g c1 c2 ho hr, by rw [q]⟩
    have hofls : ∀ i ∈ ls, ∃ o ∈ os, oI o = i ∧ oE o ∈ rl ∧ oC o = mR j := by
      intro i hi
      obtain ⟨o, ho, rfl, hr⟩ := g_to_zo c1 c2 ((hls.2 i).mp hi).1
      have hin := (h1 _).mpr hr
      exact ⟨o, ho, rfl, hin, (hmatch o ho hin).mp hi⟩
    have fin0 : ∀ z5, ls[n]? = none → (0 ≤ (-1 : Int32) → (wqR_valueOf (-1) (fun r120 => vp_in a1 32 ∧ (pq z5 0 (upd mR a1.toNatClampNeg r120) mX' mT' (nI rl.length) (nI ((rl.map (zo_wt os)).sum)))))) ∧ (¬ (0 ≤ (-1 : Int32)) → (pq 0 0 mR mX' mT' (nI rl.length) (nI ((rl.map (zo_wt os)).sum)))) := by
      intro z5 hnone
      refine ⟨fun z => absurd z (by decide), fun _ => ?_⟩
      rcases hres with ⟨i, q1, -, -⟩ | ⟨-, rfl, rfl⟩
      · rw [hnone] at q1; cases q1
      · exact h _ _ _ _ _ _ (fun _ => rfl) hc
    refine ⟨n + 2, ?_⟩
    by_cases hk2 : rl.length ≤ n
    · have hnone : ls[n]? = none := List.getElem?_eq_none (by omega)
      unfold wqR_instance_49
      exact ⟨fun _ => fin0 _ hnone, fun _ => ⟨fun _ => fin0 _ hnone, fun _ => ⟨fun _ => fin0 _ hnone, fun z => absurd (nI_le hk2 hn) z⟩⟩⟩
    · have loop : ∀ (m t : Nat) (z4 : Int32) (bb : Nat), t + m = n + 1 → bb < 2 ^ 31 → (∀ q i, q < t → ls[q]? = some i → i ≤ bb) → (∀ q i, t ≤ q → ls[q]? = some i → bb < i) → (t = n + 1 → ∃ o ∈ os, oE o ∈ rl ∧ z4 = nI (oE o) ∧ oI o = bb ∧ ls[n]? = some bb) →
          wqR_instance_49 (nI nE) mI mC mY mZ mF mL mN a1 a2 (nI n) 0 mR mX' mT' (nI rl.length) (nI ((rl.map (zo_wt os)).sum)) pq (fun z4_49 z5_49 z6_49 => (0 ≤ z4_49 → (wqR_valueOf z4_49 (fun r120 => vp_in a1 32 ∧ (pq z5_49 0 (upd mR a1.toNatClampNeg r120) mX' mT' (nI rl.length) (nI ((rl.map (zo_wt os)).sum)))))) ∧ (¬ (0 ≤ z4_49) → (pq 0 0 mR mX' mT' (nI rl.length) (nI ((rl.map (zo_wt os)).sum))))) (m + 1) z4 (nI bb) (nI t) := by
        intro m
        induction m with
        | zero =>
          intro t z4 bb ht hbb i1 i2 i3
          have htn : t = n + 1 := by omega
          obtain ⟨o, ho, hor, rfl, hio, hlsn⟩ := i3 htn
          have hob := c3.1 o ho
          have h8 : oE o < 8192 := by have := hob.1; omega
          subst htn
          unfold wqR_instance_49
          refine ⟨fun _ => ⟨fun _ => sr_valueOf ⟨gReg_in hk, ?_⟩, fun z => absurd (nI_pos' (by omega)) z⟩, fun z => absurd (nI_lt (by omega) (by omega)) z⟩
          rw [gReg_cl hk]
          rcases hres with ⟨i, q1, rfl, rfl⟩ | ⟨q1, -, -⟩
          · rw [hlsn] at q1
            have hbi : bb = i := Option.some.inj q1
            have hcr := r_setReg (k := k) hc' (v := ov_ (oE o)) ⟨Or.inr ⟨o, ho, rfl⟩, fun e hd => by
              rw [zo_dec_ov h8] at hd
              cases hd
              exact (h1 _).mp hor⟩
            rw [zv_ov c1.1 ho (c1.2.1 o ho), hio, hbi] at hcr
            exact h _ _ _ _ _ _ (fun _ => by rw [hbi]) ⟨e1, rfl, e3, os, cs, fl, hi, e4, hcr⟩
          · rw [hlsn] at q1; cases q1
        | succ m ih =>
          intro t z4 bb ht hbb i1 i2 i3
          obtain ⟨s1, s2⟩ := srt_next hls.1 i1 i2
          unfold wqR_instance_49
          refine ⟨fun z => absurd z (nI_nlt (by omega) (by omega)), fun _ => ⟨fun z => absurd z (nI_pos hbb), fun _ => ⟨fun z => absurd z (nI_ge (by omega) (by omega)), fun _ => ⟨gReg_in hj, ?_⟩⟩⟩⟩
          rw [gReg_cl hj, zi_1]
          refine sr_nextOf hE hL c1 c3 hM h2 hbb ?_ ?_
          · intro hnone
            have hlst : ls[t]? = none := s1 (fun i hi hlt => by
              obtain ⟨o, ho, rfl, hin, hcv⟩ := hofls i hi
              exact hnone o ho hin hcv hlt)
            have hlsn : ls[n]? = none := by
              have := List.getElem?_eq_none_iff.mp hlst
              exact List.getElem?_eq_none (by omega)
            refine ⟨fun z => absurd z (by decide), fun _ => ?_⟩
            unfold wqR_instance_49
            cases m with
            | zero =>
              refine ⟨fun _ => fin0 _ hlsn, fun z => absurd (nI_lt (by omega) (by omega)) z⟩
            | succ m =>
              exact ⟨fun _ => fin0 _ hlsn, fun _ => ⟨fun _ => fin0 _ hlsn, fun z => absurd (by decide) z⟩⟩
          · intro o ho hor hcv hlt hmin
            have hob := c3.1 o ho
            have hils := (hmatch o ho hor).mpr hcv
            obtain ⟨t1, t2, t3⟩ := s2 (oI o) hils hlt (fun i hi hbi => by
              obtain ⟨o', ho', rfl, hin', hcv'⟩ := hofls i hi
              exact hmin o' ho' hin' hcv' hbi)
            have h8 : oE o < 8192 := by have := hob.1; omega
            refine ⟨fun _ => ⟨vp_in_nI h8 (by omega), ?_⟩, fun z => absurd (nI_pos' (by omega)) z⟩
            rw [nI_clamp (by omega), hob.2.2.2.1]
            refine ih (t + 1) _ (oI o) (by omega) (by have := hob.2.1.2; omega) t2 t3 ?_
            intro htn
            have : t = n := by omega
            subst this
            exact ⟨o, ho, hor, rfl, rfl, t1⟩
      exact loop (n + 1) 0 (-1) 0 (by omega) (by omega) (fun q i hq => by omega) (fun q i _ hi => by
        obtain ⟨o, ho, rfl, -, -⟩ := hofls i (List.mem_of_getElem? hi)
        exact (c3.1 o ho).2.1.1) (fun z => by omega)
  · have hq := h 0 mR mX mT mct mtk (fun z => absurd z (by decide)) hc
    have bad : wqR_instance_27 (nI nE) mI mC mY mZ mF mL mN a1 a2 a3 1 mR mX mT mct mtk pq := ⟨fun z => absurd z (by decide), fun _ => hq⟩
    by_cases q : ∃ k, gReg a1 k
    · obtain ⟨k, hk⟩ := id q
      refine sr_isReg_in hk ⟨fun z => absurd z (by decide), fun _ => ?_⟩
      by_cases q2 : ∃ j, gReg a2 j
      · obtain ⟨j, hj⟩ := id q2
        refine sr_isReg_in hj ⟨fun z => absurd z (by decide), fun _ => ⟨fun _ => bad, fun z => ?_⟩⟩
        obtain ⟨n, hn1, hn2⟩ := nI_of z
        exact absurd ⟨q, q2, n, hn1, hn2⟩ hn
      · exact sr_isReg_out q2 ⟨fun _ => bad, fun z => absurd rfl z⟩
    · exact sr_isReg_out q ⟨fun _ => bad, fun z => absurd rfl z⟩
end RE

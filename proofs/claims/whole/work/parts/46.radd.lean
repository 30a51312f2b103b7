/-! the reference gives back what isn't reached, and adds an object -/
theorem nd_le : ∀ (x y : List Nat), x.Nodup → (∀ i ∈ x, i ∈ y) → x.length ≤ y.length := by
  intro x
  induction x with
  | nil => intro y _ _; simp
  | cons a x ih =>
    intro y hx hy
    rw [List.nodup_cons] at hx
    have ha := hy a List.mem_cons_self
    have h1 := ih (y.erase a) hx.2 (fun i hi => (List.mem_erase_of_ne (fun (e : i = a) => hx.1 (by rw [← e]; exact hi))).mpr (hy i (List.mem_cons_of_mem _ hi)))
    rw [List.length_erase_of_mem ha] at h1
    have : 0 < y.length := List.length_pos_of_mem ha
    simp
    omega
theorem zc_congr {mN mN' : Nat → Int32} : ∀ (l : List Nat) (v : Int32), (∀ c ∈ l, mN' c = mN c) → zc_ch mN v l → zc_ch mN' v l := by
  intro l
  induction l with
  | nil => intro v _ h; exact h
  | cons d l ih =>
    intro v hc h
    obtain ⟨h1, h2⟩ := h
    refine ⟨h1, ?_⟩
    rw [hc d List.mem_cons_self]
    exact ih _ (fun c hc' => hc c (List.mem_cons_of_mem _ hc')) h2
section RF
variable {nW nE L hi : Nat} {os : List Ob_} {cs : Nat → List Nat} {fl : List Nat} {G G' : G_} {mR mI mC mY mZ mF mL mN mX mT : Nat → Int32} {mfr mcd mwd men mmd mhi mct mtk : Int32} {a b a1 a2 a3 c o_ : Int32}
theorem sr_give_47 {y1 mhi0 : Int32} {mIf : Nat → Int32} {post : (Nat → Int32) → Int32 → (Nat → Int32) → Int32 → Prop} {kx : Int32 → (Nat → Int32) → Int32 → Prop} :
    ∀ (ys : List Nat) (v : Int32) (fl : List Nat) (mN : Nat → Int32) (mfr : Int32), zc_ch mN v ys → zc_ch mN mfr fl → (ys ++ fl).Nodup → (∀ y ∈ ys, y < 65536) → (∀ z mN' mfr', zc_ch mN' mfr' (ys.reverse ++ fl) → (∀ x, x ∉ ys → mN' x = mN x) → kx z mN' mfr') →
      wqR_giveBack_47 men mF mX y1 mIf mhi0 post kx (ys.length + 1) v mN mfr := by
  intro ys
  induction ys with
  | nil =>
    intro v fl mN mfr hch hfl _ _ hk
    unfold wqR_giveBack_47
    rw [show v = -1 from hch]
    exact ⟨fun _ => hk _ _ _ hfl (fun _ _ => rfl), fun z => absurd (by decide) z⟩
  | cons y ys ih =>
    intro v fl mN mfr hch hfl hnd hlt hk
    obtain ⟨h1, h2⟩ := hch
    have hy := hlt y List.mem_cons_self
    rw [List.cons_append, List.nodup_cons] at hnd
    have hny : y ∉ ys := fun q => hnd.1 (List.mem_append_left _ q)
    have hnf : y ∉ fl := fun q => hnd.1 (List.mem_append_right _ q)
    unfold wqR_giveBack_47
    rw [h1, nI_clamp (by omega)]
    refine ⟨fun z => absurd z (nI_pos (by omega)), fun _ => ⟨vp_in_nI hy (by omega), vp_in_nI hy (by omega), ?_⟩⟩
    refine ih (mN y) (y :: fl) (upd mN y mfr) (nI y) ((zc_upd _ _ hny).mpr h2) ⟨rfl, ?_⟩ ?_ (fun z hz => hlt z (List.mem_cons_of_mem _ hz)) ?_
    · rw [pk_us]
      exact (zc_upd _ _ hnf).mpr hfl
    · rw [List.nodup_append] at hnd ⊢
      obtain ⟨n1, n2, n3, n4⟩ := hnd
      rw [List.nodup_cons]
      refine ⟨n2, ⟨hnf, n3⟩, fun a ha b hb => ?_⟩
      rcases List.mem_cons.mp hb with q | q
      · rw [q]
        exact fun e => hny (e ▸ ha)
      · exact n4 a ha b q
    · intro z mN' mfr' hc' hs
      refine hk z mN' mfr' ?_ ?_
      · rw [List.reverse_cons, List.append_assoc]
        exact hc'
      · intro x hx
        rw [hs x (fun q => hx (List.mem_cons_of_mem _ q)), pk_un (fun (e : x = y) => hx (by rw [e]; exact List.mem_cons_self))]
/-- one object is dropped, its cells are free -/
theorem r_drop {pre po : List Ob_} {o : Ob_} {mN' : Nat → Int32} {mfr' : Int32} (hn : ((pre ++ o :: po).map oE).Nodup) (hm : r_mem nW nE L (pre ++ o :: po) cs fl mI mC mY mZ mF mL mN mfr) (hc : zc_ch mN' mfr' ((cs (oE o)).reverse ++ fl)) (hs : ∀ x, x ∉ cs (oE o) → mN' x = mN x) :
    r_mem nW nE L (pre ++ po) cs ((cs (oE o)).reverse ++ fl) (upd mI (oE o) 0) mC mY mZ mF mL mN' mfr' := by
  obtain ⟨m1, m2, m3, m4⟩ := hm
  have ho : o ∈ pre ++ o :: po := by simp
  have hsub : ∀ x ∈ pre ++ po, x ∈ pre ++ o :: po := by
    intro x hx
    rcases List.mem_append.mp hx with q | q
    · exact List.mem_append_left _ q
    · exact List.mem_append_right _ (List.mem_cons_of_mem _ q)
  have hne : ∀ x ∈ pre ++ po, oE x ≠ oE o := by
    intro x hx e
    rw [List.map_append, List.map_cons, List.nodup_append, List.nodup_cons] at hn
    rcases List.mem_append.mp hx with q | q
    · exact hn.2.2 (oE x) (List.mem_map_of_mem q) (oE o) List.mem_cons_self e
    · exact hn.2.1.1 (by rw [← e]; exact List.mem_map_of_mem q)
  refine ⟨?_, ?_, hc, ?_⟩
  · intro x hx
    obtain ⟨q1, q2, q3, q4, q5, q6, q7, q8, q9⟩ := m1 x (hsub x hx)
    refine ⟨q1, q2, q3, by rw [pk_un (hne x hx)]; exact q4, q5, q6, q7, ?_, q9⟩
    refine zc_congr _ _ (fun c hc' => hs c (fun q => hne x hx ?_)) q8
    rw [zc_one m4 hn (hsub x hx) ho hc' q]
  · intro p hp hno
    by_cases c : p = oE o
    · rw [c, pk_us]
    · rw [pk_un c]
      refine m2 p hp (fun x hx e => ?_)
      rcases List.mem_append.mp hx with q | q
      · exact hno x (List.mem_append_left _ q) e
      · rcases List.mem_cons.mp q with q | q
        · exact c (by rw [← e, q])
        · exact hno x (List.mem_append_right _ q) e
  · refine List.Perm.trans ?_ m4
    rw [zc_app, zc_app, zc_cons]
    have h1 : ((cs (oE o)).reverse ++ fl ++ (zc_all pre cs ++ zc_all po cs)).Perm (cs (oE o) ++ (fl ++ (zc_all pre cs ++ zc_all po cs))) := by
      rw [List.append_assoc]
      exact (List.reverse_perm _).append_right _
    refine h1.trans ?_
    have h2 : (cs (oE o) ++ (fl ++ (zc_all pre cs ++ zc_all po cs))).Perm ((fl ++ (zc_all pre cs ++ zc_all po cs)) ++ cs (oE o)) := List.perm_append_comm
    refine h2.trans ?_
    rw [List.append_assoc, List.append_assoc]
    exact List.Perm.append_left _ (List.Perm.append_left _ List.perm_append_comm)
theorem zo_filter_drop {pre po : List Ob_} {o : Ob_} {g : Ob_ → Bool} (ho : g o = false) (h1 : ∀ x ∈ pre, g x = true) (h2 : ∀ x ∈ po, g x = true) : (pre ++ o :: po).filter g = pre ++ po := by
  rw [List.filter_append, List.filter_cons, if_neg (by rw [ho]; decide), List.filter_eq_self.mpr h1, List.filter_eq_self.mpr h2]
theorem sr_giveBack {rl : List Nat} {post : (Nat → Int32) → Int32 → (Nat → Int32) → Int32 → Prop} (hE : nE ≤ 8192) (hW : nW ≤ 65536) (hL : G.2.2 < 2 ^ 31) (hc : r_core nW nE os cs fl hi G mR mI mC mY mZ mF mL mN mfr) (hM : zo_M nE 1 rl mT mct mX) (h1 : ∀ e, e ∈ rl ↔ zo_reach os mR e)
    (h : ∀ mI' mN' mfr' fl', r_core nW nE (os.filter (zo_in rl)) cs fl' 0 G mR mI' mC mY mZ mF mL mN' mfr' → (∀ o ∈ os.filter (zo_in rl), zo_reach (os.filter (zo_in rl)) mR (oE o)) → post mI' 0 mN' mfr') : wqR_giveBack (nI nE) mI mF mhi mN mfr mX post := by
  obtain ⟨c1, c2, c3, c4, c5⟩ := hc
  unfold wqR_giveBack
  refine ⟨nE + 1, ?_⟩
  have fin : ∀ fl' mI' mN' mfr', r_mem nW nE G.2.2 (os.filter (zo_in rl)) cs fl' mI' mC mY mZ mF mL mN' mfr' → post mI' 0 mN' mfr' := by
    intro fl' mI' mN' mfr' hm
    obtain ⟨g1, g2, g3⟩ := zo_gc (g := zo_in rl) c1 c2 (fun o ho => by rw [← h1]; unfold zo_in; exact decide_eq_true_iff)
    exact h mI' mN' mfr' fl' ⟨g1, g2, hm, by omega, fun p hp => by omega⟩ g3
  have hstep : ∀ t, os.filter (fun o => decide (t + 1 ≤ oE o) || zo_in rl o) = (os.filter (fun o => decide (t ≤ oE o) || zo_in rl o)).filter (fun o => decide (oE o ≠ t) || zo_in rl o) := by
    intro t
    rw [List.filter_filter]
    congr 1
    funext o
    cases zo_in rl o with
    | true => simp
    | false =>
      by_cases q1 : t + 1 ≤ oE o
      · have q2 : t ≤ oE o := by omega
        have q3 : oE o ≠ t := by omega
        simp [q1, q2, q3]
      · by_cases q2 : t ≤ oE o
        · have q3 : oE o = t := by omega
          simp [q3]
        · simp [q1, q2]
  have loop : ∀ (m t : Nat) (fl : List Nat) (mI mN : Nat → Int32) (mfr : Int32), t + m = nE → r_mem nW nE G.2.2 (os.filter (fun o => decide (t ≤ oE o) || zo_in rl o)) cs fl mI mC mY mZ mF mL mN mfr →
      wqR_giveBack_7 (nI nE) mF mX 0 post (fun z1_7 mIe_7 mNe_7 mfre_7 => post mIe_7 0 mNe_7 mfre_7) (m + 1) (nI t) mI mN mfr := by
    intro m
    induction m with
    | zero =>
      intro t fl mI mN mfr ht hm
      unfold wqR_giveBack_7
      have : t = nE := by omega
      subst this
      have hf : os.filter (fun o => decide (t ≤ oE o) || zo_in rl o) = os.filter (zo_in rl) := by
        refine List.filter_congr (fun o ho => ?_)
        have := (c3.1 o ho).1
        have q : ¬ t ≤ oE o := by omega
        simp [q]
      rw [hf] at hm
      exact ⟨fun _ => fin fl mI mN mfr hm, fun z => absurd (nI_le (Nat.le_refl _) (by omega)) z⟩
    | succ m ih =>
      intro t fl mI mN mfr ht hm
      have hnd : ((os.filter (fun o => decide (t ≤ oE o) || zo_in rl o)).map oE).Nodup := (List.filter_sublist.map oE).nodup c1.1
      have same : (∀ o ∈ os.filter (fun o => decide (t ≤ oE o) || zo_in rl o), oE o = t → zo_in rl o = true) → wqR_giveBack_7 (nI nE) mF mX 0 post (fun z1_7 mIe_7 mNe_7 mfre_7 => post mIe_7 0 mNe_7 mfre_7) (m + 1) (nI t + 1) mI mN mfr := by
        intro hq
        rw [zi_1]
        refine ih (t + 1) fl mI mN mfr (by omega) ?_
        rw [hstep t, List.filter_eq_self.mpr]
        · exact hm
        · intro o ho
          by_cases q : oE o = t
          · rw [hq o ho q]
            simp
          · simp [q]
      unfold wqR_giveBack_7
      refine ⟨fun z => absurd z (nI_ge (by omega) (by omega)), fun _ => ⟨vp_in_nI (by omega) (by omega), ?_⟩⟩
      rw [nI_clamp (by omega)]
      by_cases hlive : ∃ o ∈ os.filter (fun o => decide (t ≤ oE o) || zo_in rl o), oE o = t
      · obtain ⟨o, ho, hoe⟩ := hlive
        have hob := hm.1 o ho
        have hI := hob.2.2.2.1
        rw [hoe] at hI
        have hpos : ¬ mI t ≤ 0 := by
          rw [hI]
          exact nI_nle (by have := hob.2.1.1; omega) (by have := hob.2.1.2; omega)
        refine ⟨fun z => absurd z hpos, fun _ => ⟨vp_in_nI (by omega) (by omega), fun hx0 => ⟨vp_in_nI (by omega) (by omega), vp_in_nI (by omega) (by omega), ?_⟩, fun hx0 => same ?_⟩⟩
        · have hnr : t ∉ rl := by
            intro q
            rw [(hM.2.2.2.2.1 t (by omega)).mpr q] at hx0
            exact absurd hx0 (by decide)
          obtain ⟨pre, po, hpp⟩ := zo_split ho
          rw [hpp] at hm hnd
          refine ⟨(cs t).length + 1, ?_⟩
          have hch := hob.2.2.2.2.2.2.2.1
          rw [hoe] at hch
          refine sr_give_47 (cs t) (mF t) fl mN mfr hch hm.2.2.1 ?_ ?_ ?_
          · have hnd2 := r_nd hm.2.2.2
            rw [List.nodup_append] at hnd2
            rw [List.nodup_append]
            refine ⟨?_, hnd2.1, fun a ha b hb e => hnd2.2.2 b hb a (zc_mem (o := o) (by simp) (by rw [hoe]; exact ha)) e.symm⟩
            have := zc_nd hm.2.2.2 (o := o) (by simp)
            rwa [hoe] at this
          · intro y hy
            have := r_clt hm.2.2.2 (o := o) (c := y) (by simp) (by rw [hoe]; exact hy)
            omega
          · intro z mN' mfr' hc' hs
            rw [zi_1]
            have hd := r_drop (o := o) (mN' := mN') (mfr' := mfr') hnd hm (by rw [hoe]; exact hc') (by rw [hoe]; exact hs)
            rw [hoe] at hd
            refine ih (t + 1) ((cs t).reverse ++ fl) (upd mI t 0) mN' mfr' (by omega) ?_
            rw [hstep t, hpp, zo_filter_drop]
            · exact hd
            · have q : zo_in rl o = false := by
                unfold zo_in
                rw [hoe]
                exact decide_eq_false hnr
              simp [hoe, q]
            · intro x hx
              have : oE x ≠ t := by
                rw [List.map_append, List.map_cons, List.nodup_append] at hnd
                rw [← hoe]
                exact hnd.2.2 (oE x) (List.mem_map_of_mem hx) (oE o) List.mem_cons_self
              simp [this]
            · intro x hx
              have : oE x ≠ t := by
                rw [List.map_append, List.map_cons, List.nodup_append, List.nodup_cons] at hnd
                rw [← hoe]
                intro e
                exact hnd.2.1.1 (by rw [← e]; exact List.mem_map_of_mem hx)
              simp [this]
        · intro o' ho' he'
          unfold zo_in
          rw [he']
          refine decide_eq_true ?_
          obtain ⟨q, hq, hqe⟩ := hM.2.2.2.2.2 t (by omega)
          rcases (show q = 0 ∨ q = 1 by omega) with rfl | rfl
          · exact absurd hqe hx0
          · exact (hM.2.2.2.2.1 t (by omega)).mp hqe
      · have h0 : mI t = 0 := hm.2.1 t (by omega) (fun o ho e => hlive ⟨o, ho, e⟩)
        refine ⟨fun _ => same (fun o ho e => absurd ⟨o, ho, e⟩ hlive), fun z => absurd (by rw [h0]; decide) z⟩
  refine loop nE 0 fl mI mN mfr (by omega) ?_
  have hf : os.filter (fun o => decide (0 ≤ oE o) || zo_in rl o) = os := List.filter_eq_self.mpr (fun o _ => by simp)
  rw [hf]
  exact c3
/-! adding -/
theorem r_free (hn : (os.map oE).Nodup) (hlt : ∀ o ∈ os, oE o < nE) (hlen : os.length < nE) (hhi : ∀ p, p < hi → ∃ o ∈ os, oE o = p) : ∃ p, hi ≤ p ∧ p < nE ∧ (∀ o ∈ os, oE o ≠ p) ∧ ∀ q, q < p → ∃ o ∈ os, oE o = q := by
  have hex : ∃ p, p < nE ∧ ∀ o ∈ os, oE o ≠ p := by
    refine Classical.byContradiction (fun hno => ?_)
    have hall : ∀ p, p < nE → p ∈ os.map oE := by
      intro p hp
      refine Classical.byContradiction (fun hq => hno ⟨p, hp, fun o ho e => hq (by rw [← e]; exact List.mem_map_of_mem ho)⟩)
    have := nd_le (List.range nE) (os.map oE) List.nodup_range (fun i hi => hall i (List.mem_range.mp hi))
    rw [List.length_range, List.length_map] at this
    omega
  have hmin : ∀ n, (∀ q, q < n → ∃ o ∈ os, oE o = q) ∨ ∃ p, p < n ∧ (∀ o ∈ os, oE o ≠ p) ∧ ∀ q, q < p → ∃ o ∈ os, oE o = q := by
    intro n
    induction n with
    | zero => exact Or.inl (fun q hq => by omega)
    | succ n ih =>
      rcases ih with h1 | ⟨p, h1, h2⟩
      · by_cases c : ∃ o ∈ os, oE o = n
        · refine Or.inl (fun q hq => ?_)
          rcases Nat.lt_or_ge q n with z | z
          · exact h1 q z
          · have : q = n := by omega
            rw [this]; exact c
        · exact Or.inr ⟨n, by omega, fun o ho e => c ⟨o, ho, e⟩, h1⟩
      · exact Or.inr ⟨p, by omega, h2⟩
  rcases hmin nE with h1 | ⟨p, h1, h2, h3⟩
  · obtain ⟨p, hp, hno⟩ := hex
    obtain ⟨o, ho, e⟩ := h1 p hp
    exact absurd e (hno o ho)
  · refine ⟨p, ?_, h1, h2, h3⟩
    rcases Nat.lt_or_ge p hi with z | z
    · obtain ⟨o, ho, e⟩ := hhi p z
      exact absurd e (h2 o ho)
    · exact z
theorem sr_add_89 {y1 mmd0 mhi0 : Int32} {p h : Nat} {mIf mCf mYf mZf : Nat → Int32} {post : Int32 → (Nat → Int32) → (Nat → Int32) → (Nat → Int32) → (Nat → Int32) → (Nat → Int32) → Int32 → Int32 → (Nat → Int32) → (Nat → Int32) → Int32 → Prop} {kx : Int32 → (Nat → Int32) → (Nat → Int32) → (Nat → Int32) → Int32 → Prop} (hh : h < 2 ^ 20) (hp : p < 8192) :
    ∀ (m t : Nat) (fl ys : List Nat) (mF mL mN : Nat → Int32) (mfr : Int32), t + m = bW_ h → m ≤ fl.length → zc_ch mN mfr fl → zc_ch mN (mF p) ys → (fl ++ ys).Nodup → (∀ x ∈ fl, x < 65536) → ys.map mL = List.replicate ys.length 0 →
      (∀ z fl' ys' mF' mL' mN' mfr', (fl' ++ ys').Perm (fl ++ ys) → ys'.length = ys.length + m → zc_ch mN' mfr' fl' → zc_ch mN' (mF' p) ys' → ys'.map mL' = List.replicate ys'.length 0 → (∀ x, x ∉ fl → mN' x = mN x) → (∀ x, x ∉ fl → mL' x = mL x) → (∀ e, e ≠ p → mF' e = mF e) → kx z mF' mL' mN' mfr') →
      wqR_add_89 y1 (nI (h / 2)) (nI (h % 2)) (nI p) mIf mCf mYf mZf mmd0 mhi0 post kx (m + 1) (nI t) mF mL mN mfr := by
  have hb : bW_ h < 2 ^ 20 := by
    unfold bW_
    split <;> omega
  intro m
  induction m with
  | zero =>
    intro t fl ys mF mL mN mfr ht hm h1 h2 h3 h4 h5 hk
    unfold wqR_add_89
    refine sr_cellsFor hh ⟨fun _ => hk _ fl ys mF mL mN mfr (List.Perm.refl _) rfl h1 h2 h5 (fun _ _ => rfl) (fun _ _ => rfl) (fun _ _ => rfl), fun z => absurd (nI_le (by omega) (by omega)) z⟩
  | succ m ih =>
    intro t fl ys mF mL mN mfr ht hm h1 h2 h3 h4 h5 hk
    unfold wqR_add_89
    cases fl with
    | nil => simp at hm
    | cons c fl =>
      obtain ⟨q1, q2⟩ := h1
      have hc := h4 c List.mem_cons_self
      rw [List.cons_append, List.nodup_cons] at h3
      have hcf : c ∉ fl := fun z => h3.1 (List.mem_append_left _ z)
      have hcy : c ∉ ys := fun z => h3.1 (List.mem_append_right _ z)
      have vc : vp_in (nI c) 65536 := vp_in_nI hc (by omega)
      have vp : vp_in (nI p) 8192 := vp_in_nI hp (by omega)
      refine sr_cellsFor hh ⟨fun z => absurd z (nI_ge (by omega) (by omega)), fun _ => ?_⟩
      rw [q1, nI_clamp (n := c) (by omega), nI_clamp (n := p) (by omega), zi_1]
      refine ⟨vc, vc, vp, vc, vp, ?_⟩
      refine ih (t + 1) fl (c :: ys) (upd mF p (nI c)) (upd mL c 0) (upd mN c (mF p)) (mN c) (by omega) (by simp at hm; omega) ((zc_upd _ _ hcf).mpr q2) ?_ ?_ (fun x hx => h4 x (List.mem_cons_of_mem _ hx)) ?_ ?_
      · rw [pk_us]
        refine ⟨rfl, ?_⟩
        rw [pk_us]
        exact (zc_upd _ _ hcy).mpr h2
      · exact (List.perm_middle.nodup_iff).mpr (List.nodup_cons.mpr h3)
      · rw [List.map_cons, pk_us, map_upd_out hcy, h5]
        rfl
      · intro z fl' ys' mF' mL' mN' mfr' p1 p2 p3 p4 p5 p6 p7 p8
        refine hk z fl' ys' mF' mL' mN' mfr' (p1.trans List.perm_middle) (by simp at p2; omega) p3 p4 p5 ?_ ?_ ?_
        · intro x hx
          rw [p6 x (fun q => hx (List.mem_cons_of_mem _ q)), pk_un (fun (e : x = c) => hx (by rw [e]; exact List.mem_cons_self))]
        · intro x hx
          rw [p7 x (fun q => hx (List.mem_cons_of_mem _ q)), pk_un (fun (e : x = c) => hx (by rw [e]; exact List.mem_cons_self))]
        · intro e he
          rw [p8 e he, pk_un he]
/-- what adding leaves: the new object, empty, at a free place -/
theorem sr_add {h : Nat} {v : Int32} {post : Int32 → (Nat → Int32) → (Nat → Int32) → (Nat → Int32) → (Nat → Int32) → (Nat → Int32) → Int32 → Int32 → (Nat → Int32) → (Nat → Int32) → Int32 → Prop} (hE : nE ≤ 8192) (hW : nW ≤ 65536) (hL : L + 1 < 2 ^ 31) (hn : (os.map oE).Nodup) (hm : r_mem nW nE L os cs fl mI mC mY mZ mF mL mN mfr) (hhi : ∀ p, p < hi → ∃ o ∈ os, oE o = p) (hlen : os.length < nE) (hh : h ≤ 32001) (hfl : bW_ h ≤ fl.length)
    (hk : ∀ p hi' cs' fl' mI' mC' mY' mZ' mF' mL' mN' mfr', p < nE → (∀ o ∈ os, oE o ≠ p) → r_mem nW nE (L + 1) (os ++ [(p, L + 1, v, h, List.replicate (bW_ h) 0)]) cs' fl' mI' mC' mY' mZ' mF' mL' mN' mfr' → hi' ≤ nE → (∀ q, q < hi' → ∃ o ∈ os ++ [((p, L + 1, v, h, List.replicate (bW_ h) 0) : Ob_)], oE o = q) → (∀ o ∈ os, cs' (oE o) = cs (oE o)) → (∀ o ∈ os, mF' (oE o) = mF (oE o)) → fl'.length + bW_ h = fl.length →
      post (nI p) mI' mC' mY' mZ' mF' (nI (L + 1)) (nI hi') mL' mN' mfr') : wqR_add mI mC mY mZ mF (nI L) (nI hi) mL mN mfr v (nI (h / 2)) (nI (h % 2)) post := by
  obtain ⟨m1, m2, m3, m4⟩ := hm
  obtain ⟨p, hp1, hp2, hp3, hp4⟩ := r_free hn (fun o ho => (m1 o ho).1) hlen hhi
  unfold wqR_add
  refine ⟨p - hi + 1, ?_⟩
  have scan : ∀ (kx : Int32 → Prop) (m t : Nat), t + m = p → kx (nI p) → wqR_add_6 v (nI (h / 2)) (nI (h % 2)) mI mC mY mZ mF (nI L) (nI hi) mL mN mfr post kx (m + 1) (nI t) := by
    intro kx m
    induction m with
    | zero =>
      intro t ht hq
      have : t = p := by omega
      subst this
      unfold wqR_add_6
      rw [nI_clamp (by omega), m2 t hp2 hp3]
      exact ⟨vp_in_nI (by omega) (by omega), fun _ => hq, fun z => absurd (by decide) z⟩
    | succ m ih =>
      intro t ht hq
      unfold wqR_add_6
      rw [nI_clamp (by omega), zi_1]
      obtain ⟨o, ho, hoe⟩ := hp4 t (by omega)
      have hob := m1 o ho
      have hI := hob.2.2.2.1
      rw [hoe] at hI
      refine ⟨vp_in_nI (by omega) (by omega), fun z => ?_, fun _ => ih (t + 1) (by omega) hq⟩
      rw [hI] at z
      exact absurd z (nI_nle (by have := hob.2.1.1; omega) (by have := hob.2.1.2; omega))
  refine scan _ (p - hi) hi (by omega) ?_
  have vp : vp_in (nI p) 8192 := vp_in_nI (by omega) (by omega)
  rw [nI_clamp (by omega), zi_1, zi_1]
  refine ⟨vp, vp, vp, vp, vp, bW_ h + 1, ?_⟩
  have hnd := r_nd m4
  have hnd' := hnd
  rw [List.nodup_append] at hnd'
  refine sr_add_89 (by omega) (by omega) (bW_ h) 0 fl [] (upd mF p (-1)) mL mN mfr (by omega) hfl m3 (by rw [pk_us]; rfl) (by rw [List.append_nil]; exact hnd'.1) (fun x hx => by have := r_lt m4 (List.mem_append_left _ hx); omega) rfl ?_
  intro z fl' ys' mF' mL' mN' mfr' p1 p2 p3 p4 p5 p6 p7 p8
  rw [List.append_nil] at p1
  simp only [List.length_nil, Nat.zero_add] at p2
  have hcs : ∀ o ∈ os, (fun e => if e = p then ys' else cs e) (oE o) = cs (oE o) := fun o ho => if_neg (hp3 o ho)
  have hF : ∀ o ∈ os, mF' (oE o) = mF (oE o) := fun o ho => by rw [p8 _ (hp3 o ho), pk_un (hp3 o ho)]
  have hlenp : fl'.length + bW_ h = fl.length := by
    have := p1.length_eq
    rw [List.length_append, p2] at this
    exact this
  refine hk p (p + 1) (fun e => if e = p then ys' else cs e) fl' _ _ _ _ mF' mL' mN' mfr' hp2 hp3 ⟨?_, ?_, p3, ?_⟩ (by omega) ?_ hcs hF hlenp
  · intro o ho
    rcases List.mem_append.mp ho with q | q
    · obtain ⟨q1, q2, q3, q4, q5, q6, q7, q8, q9⟩ := m1 o q
      have hne := hp3 o q
      refine ⟨q1, ⟨q2.1, by omega⟩, q3, by rw [pk_un hne]; exact q4, by rw [pk_un hne]; exact q5, by rw [pk_un hne]; exact q6, by rw [pk_un hne]; exact q7, ?_, ?_⟩
      · rw [hcs o q, hF o q]
        exact zc_congr _ _ (fun c hc => p6 c (zc_free m4 q hc)) q8
      · rw [hcs o q, ← q9]
        exact List.map_congr_left (fun c hc => p7 c (zc_free m4 q hc))
    · rw [List.mem_singleton.mp q]
      refine ⟨hp2, ⟨by show 1 ≤ L + 1; omega, Nat.le_refl _⟩, hh, pk_us, pk_us, ?_, pk_us, ?_, ?_⟩
      · show upd mY p (vp_nar .boolean (nI (h % 2))) p = nI (h % 2)
        rw [pk_us]
        exact nar_b (by omega)
      · show zc_ch mN' (mF' p) (if p = p then ys' else cs p)
        rw [if_pos rfl]
        exact p4
      · show (if p = p then ys' else cs p).map mL' = List.replicate (bW_ h) 0
        rw [if_pos rfl, p5, p2]
  · intro q hq hno
    have hqp : q ≠ p := fun e => hno _ (List.mem_append_right _ (List.mem_singleton.mpr rfl)) e.symm
    rw [pk_un hqp]
    exact m2 q hq (fun o ho => hno o (List.mem_append_left _ ho))
  · have hall : zc_all (os ++ [((p, L + 1, v, h, List.replicate (bW_ h) 0) : Ob_)]) (fun e => if e = p then ys' else cs e) = zc_all os cs ++ ys' := by
      rw [zc_app, zc_cons]
      have e1 : zc_all os (fun e => if e = p then ys' else cs e) = zc_all os cs := by
        unfold zc_all
        rw [List.flatMap_def, List.flatMap_def, List.map_congr_left hcs]
      rw [e1]
      show zc_all os cs ++ ((if p = p then ys' else cs p) ++ []) = _
      rw [if_pos rfl, List.append_nil]
    rw [hall]
    refine List.Perm.trans ?_ m4
    have h1 : (fl' ++ (zc_all os cs ++ ys')).Perm (fl' ++ (ys' ++ zc_all os cs)) := List.Perm.append_left _ List.perm_append_comm
    refine h1.trans ?_
    rw [← List.append_assoc]
    exact p1.append_right _
  · intro q hq
    rcases Nat.lt_or_ge q p with z | z
    · obtain ⟨o, ho, e⟩ := hp4 q z
      exact ⟨o, List.mem_append_left _ ho, e⟩
    · exact ⟨_, List.mem_append_right _ (List.mem_singleton.mpr rfl), by show p = q; omega⟩
end RF

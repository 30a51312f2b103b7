/-! the reference stands for a store: its places, its chains of cells -/
def zc_ch (mN : Nat → Int32) : Int32 → List Nat → Prop
  | v, [] => v = -1
  | v, c :: l => v = nI c ∧ zc_ch mN (mN c) l
def zc_all (os : List Ob_) (cs : Nat → List Nat) : List Nat := os.flatMap (fun o => cs (oE o))
/-- an object as the reference has it -/
def r_ob (nE L : Nat) (cs : Nat → List Nat) (mI mC mY mZ mF mL mN : Nat → Int32) (o : Ob_) : Prop :=
  oE o < nE ∧ (1 ≤ oI o ∧ oI o ≤ L) ∧ oH o ≤ 32001 ∧ mI (oE o) = nI (oI o) ∧ mC (oE o) = oC o ∧ mY (oE o) = nI (oH o % 2) ∧ mZ (oE o) = nI (oH o / 2) ∧ zc_ch mN (mF (oE o)) (cs (oE o)) ∧ (cs (oE o)).map mL = oB o
/-- places, chains, cells -/
def r_mem (nW nE L : Nat) (os : List Ob_) (cs : Nat → List Nat) (fl : List Nat) (mI mC mY mZ mF mL mN : Nat → Int32) (mfr : Int32) : Prop :=
  (∀ o ∈ os, r_ob nE L cs mI mC mY mZ mF mL mN o) ∧ (∀ p, p < nE → (∀ o ∈ os, oE o ≠ p) → mI p = 0) ∧ zc_ch mN mfr fl ∧ (fl ++ zc_all os cs).Perm (List.range nW)
def r_core (nW nE : Nat) (os : List Ob_) (cs : Nat → List Nat) (fl : List Nat) (hi : Nat) (G : G_) (mR mI mC mY mZ mF mL mN : Nat → Int32) (mfr : Int32) : Prop :=
  zo_wf os mR ∧ zo_abs bxR os mR G.1 G.2.1 ∧ r_mem nW nE G.2.2 os cs fl mI mC mY mZ mF mL mN mfr ∧ hi ≤ nE ∧ ∀ p, p < hi → ∃ o ∈ os, oE o = p
def r_rep (nW nE : Nat) (G : G_) (mwd men : Int32) (mR mI mC mY mZ mF : Nat → Int32) (mmd mhi : Int32) (mL mN : Nat → Int32) (mfr : Int32) : Prop :=
  mwd = nI nW ∧ men = nI nE ∧ mmd = nI G.2.2 ∧ ∃ os cs fl hi, mhi = nI hi ∧ r_core nW nE os cs fl hi G mR mI mC mY mZ mF mL mN mfr
section RA
variable {nW nE L hi : Nat} {os : List Ob_} {cs : Nat → List Nat} {fl : List Nat} {G G' : G_} {mR mI mC mY mZ mF mL mN : Nat → Int32} {mfr : Int32} {a b a1 a2 a3 c o_ : Int32} {post : Int32 → Prop}
theorem zc_upd {mN : Nat → Int32} {c : Nat} {x : Int32} : ∀ (l : List Nat) (v : Int32), c ∉ l → (zc_ch (upd mN c x) v l ↔ zc_ch mN v l) := by
  intro l
  induction l with
  | nil => intro v _; exact Iff.rfl
  | cons d l ih =>
    intro v hc
    have h1 : d ≠ c := fun e => hc (e ▸ List.mem_cons_self)
    have h2 : c ∉ l := fun e => hc (List.mem_cons_of_mem _ e)
    show (v = nI d ∧ zc_ch (upd mN c x) (upd mN c x d) l) ↔ (v = nI d ∧ zc_ch mN (mN d) l)
    rw [pk_un h1, ih _ h2]
theorem r_lt (h : (fl ++ zc_all os cs).Perm (List.range nW)) {c : Nat} (hc : c ∈ fl ++ zc_all os cs) : c < nW := List.mem_range.mp (h.mem_iff.mp hc)
theorem r_nd (h : (fl ++ zc_all os cs).Perm (List.range nW)) : (fl ++ zc_all os cs).Nodup := h.symm.nodup List.nodup_range
theorem zc_mem {o : Ob_} {c : Nat} (ho : o ∈ os) (hc : c ∈ cs (oE o)) : c ∈ zc_all os cs := List.mem_flatMap.mpr ⟨o, ho, hc⟩
theorem r_clt (h : (fl ++ zc_all os cs).Perm (List.range nW)) {o : Ob_} {c : Nat} (ho : o ∈ os) (hc : c ∈ cs (oE o)) : c < nW := r_lt h (List.mem_append_right _ (zc_mem ho hc))
theorem zc_app (x y : List Ob_) : zc_all (x ++ y) cs = zc_all x cs ++ zc_all y cs := by
  unfold zc_all
  rw [List.flatMap_append]
theorem zc_cons (o : Ob_) (x : List Ob_) : zc_all (o :: x) cs = cs (oE o) ++ zc_all x cs := by
  unfold zc_all
  rw [List.flatMap_cons]
/-- a cell is in one chain alone -/
theorem zc_one (h : (fl ++ zc_all os cs).Perm (List.range nW)) {o o' : Ob_} {c : Nat} (hn : (os.map oE).Nodup) (ho : o ∈ os) (ho' : o' ∈ os) (hc : c ∈ cs (oE o)) (hc' : c ∈ cs (oE o')) : o = o' := by
  have hnd := r_nd h
  rw [List.nodup_append] at hnd
  have hnd := hnd.2.1
  obtain ⟨pre, po, rfl⟩ := zo_split ho
  rw [zc_app, zc_cons, List.nodup_append, List.nodup_append] at hnd
  obtain ⟨n1, ⟨n2, n3, n4⟩, n5⟩ := hnd
  rcases List.mem_append.mp ho' with q | q
  · exact absurd rfl (n5 c (zc_mem q hc') c (List.mem_append_left _ hc))
  · rcases List.mem_cons.mp q with q | q
    · exact q.symm
    · exact absurd rfl (n4 c hc c (zc_mem q hc'))
theorem zc_nd (h : (fl ++ zc_all os cs).Perm (List.range nW)) {o : Ob_} (ho : o ∈ os) : (cs (oE o)).Nodup := by
  have hnd := r_nd h
  rw [List.nodup_append] at hnd
  have hnd := hnd.2.1
  obtain ⟨pre, po, rfl⟩ := zo_split ho
  rw [zc_app, zc_cons, List.nodup_append, List.nodup_append] at hnd
  exact hnd.2.1.1
theorem zc_free (h : (fl ++ zc_all os cs).Perm (List.range nW)) {o : Ob_} {c : Nat} (ho : o ∈ os) (hc : c ∈ cs (oE o)) : c ∉ fl := by
  have hnd := r_nd h
  rw [List.nodup_append] at hnd
  exact fun q => hnd.2.2 c q c (zc_mem ho hc) rfl
/-! the small methods -/
theorem sr_isReg_in {k : Nat} (h : gReg a k) (hp : post 1) : wqR_isRegister a post := by
  obtain ⟨h1, rfl⟩ := h
  unfold wqR_isRegister
  exact ⟨fun z => absurd z (nI_pos (by omega)), fun _ => ⟨fun z => absurd z (nI_ge (b := 32) h1 (by omega)), fun _ => hp⟩⟩
theorem sr_isReg_out (h : ¬ ∃ k, gReg a k) (hp : post 0) : wqR_isRegister a post := by
  rw [gReg_iff] at h
  unfold wqR_isRegister
  refine ⟨fun _ => hp, fun c1 => ⟨fun _ => hp, fun c2 => ?_⟩⟩
  rw [Int32.lt_iff_toInt_lt] at c1
  rw [Int32.le_iff_toInt_le] at c2
  have e1 : (0 : Int32).toInt = 0 := rfl
  have e2 : (32 : Int32).toInt = 32 := rfl
  rw [e1] at c1
  rw [e2] at c2
  omega
theorem sr_isObject_o {e : Nat} (he : e < 8192) (h : post 1) : wqR_isObject (ov_ e) post := by
  unfold wqR_isObject
  exact ⟨fun z => absurd z (ov_ne0 he), fun _ => ⟨fun _ => h, fun z => absurd (ov_and he) z⟩⟩
theorem sr_isObject_n {v : Int32} (hv : v = 0 ∨ ¬ v &&& (1 : Int32) = 0) (h : post 0) : wqR_isObject v post := by
  unfold wqR_isObject
  refine ⟨fun _ => h, fun c1 => ⟨fun c2 => ?_, fun _ => h⟩⟩
  rcases hv with q | q
  · exact absurd q c1
  · exact absurd c2 q
theorem sr_placeOf {e : Nat} (he : e < 8192) (h : post (nI e)) : wqR_placeOf (ov_ e) post := by
  unfold wqR_placeOf ov_
  rw [show (2 : Int32) = nI 2 from rfl, pk_div (by omega) (by omega) (by omega), show (2 * e + 2) / 2 = e + 1 by omega, nI_pred]
  exact h
theorem sr_valueOf {e : Nat} (h : post (ov_ e)) : wqR_valueOf (nI e) post := by
  unfold wqR_valueOf
  rw [ov_of]
  exact h
theorem sr_cellsFor {h : Nat} (hh : h < 2 ^ 20) (hp : post (nI (bW_ h))) : wqR_cellsFor (nI (h / 2)) (nI (h % 2)) post := by
  unfold wqR_cellsFor
  unfold bW_ at hp
  by_cases c : h % 2 = 1
  · rw [if_pos c] at hp
    rw [c]
    refine ⟨fun z => absurd z (by decide), fun _ => ?_⟩
    rw [zi_3, show (4 : Int32) = nI 4 from rfl, pk_div (by omega) (by omega) (by omega)]
    exact hp
  · rw [if_neg c] at hp
    rw [show h % 2 = 0 by omega]
    exact ⟨fun _ => hp, fun z => absurd rfl z⟩
theorem sr_has_in {k e : Nat} (h : gReg a k) (hR : mR k = ov_ e) (he : e < 8192) (hp : post 1) : wqR_has mR a post := by
  unfold wqR_has
  refine sr_isReg_in h ⟨fun z => absurd z (by decide), fun _ => ⟨gReg_in h, ?_⟩⟩
  rw [gReg_cl h, hR]
  exact sr_isObject_o he ⟨fun z => absurd z (by decide), fun _ => hp⟩
theorem sr_has_out (hw : zo_wf os mR) (h : zo_abs bxR os mR G.1 G.2.1) (hn : ¬ ∃ i, gHas G a i) (hp : post 0) : wqR_has mR a post := by
  unfold wqR_has
  by_cases c : ∃ k, gReg a k
  · obtain ⟨k, hk⟩ := c
    refine sr_isReg_in hk ⟨fun z => absurd z (by decide), fun _ => ⟨gReg_in hk, ?_⟩⟩
    rw [gReg_cl hk]
    cases hg : G.1 k with
    | inl v =>
      obtain ⟨h1, h2⟩ := zq_val hw h hk.1 hg
      rw [h1]
      exact sr_isObject_n h2 ⟨fun _ => hp, fun z => absurd rfl z⟩
    | inr i => exact absurd ⟨i, k, hk, hg⟩ hn
  · exact sr_isReg_out c ⟨fun _ => hp, fun z => absurd rfl z⟩
theorem r_obj {k i : Nat} (hE : nE ≤ 8192) (hc : r_core nW nE os cs fl hi G mR mI mC mY mZ mF mL mN mfr) (hk : k < 32) (hi' : G.1 k = .inr i) :
    ∃ o ∈ os, mR k = ov_ (oE o) ∧ oI o = i ∧ zo_reach os mR (oE o) ∧ zo_ao bxR os o = G.2.1 i ∧ r_ob nE G.2.2 cs mI mC mY mZ mF mL mN o ∧ (oB o).length = bW_ (oH o) ∧ oE o < 8192 := by
  obtain ⟨o, ho, h1, h2, h3, h4⟩ := zq_obj hc.1 hc.2.1 hk hi'
  have hob := hc.2.2.1.1 o ho
  exact ⟨o, ho, h1, h2, h3, h4, hob, hc.1.2.2.2.2.2 o ho, by have := hob.1; omega⟩
theorem sr_hasSlots_in {k : Nat} {o : Ob_} (hE : nE ≤ 8192) (h : gReg a k) (hR : mR k = ov_ (oE o)) (ho : r_ob nE L cs mI mC mY mZ mF mL mN o) (hh : oH o % 2 = 0) (hp : post 1) : wqR_hasSlots mR mY a post := by
  obtain ⟨q1, q2, q3, q4, q5, q6, q7, q8, q9⟩ := ho
  unfold wqR_hasSlots
  refine sr_has_in h hR (by omega) ⟨fun z => absurd z (by decide), fun _ => ⟨gReg_in h, ?_⟩⟩
  rw [gReg_cl h, hR]
  refine sr_placeOf (by omega) ?_
  rw [nI_clamp (by omega), q6, hh]
  exact ⟨vp_in_nI (by omega) (by omega), fun _ => hp, fun z => absurd rfl z⟩
theorem sr_hasBytes_in {k : Nat} {o : Ob_} (hE : nE ≤ 8192) (h : gReg a k) (hR : mR k = ov_ (oE o)) (ho : r_ob nE L cs mI mC mY mZ mF mL mN o) (hp : post (nI (oH o % 2))) : wqR_hasBytes mR mY a post := by
  obtain ⟨q1, q2, q3, q4, q5, q6, q7, q8, q9⟩ := ho
  unfold wqR_hasBytes
  refine sr_has_in h hR (by omega) ⟨fun z => absurd z (by decide), fun _ => ⟨gReg_in h, ?_⟩⟩
  rw [gReg_cl h, hR]
  refine sr_placeOf (by omega) ?_
  rw [nI_clamp (by omega), q6]
  rcases (show oH o % 2 = 1 ∨ oH o % 2 = 0 by omega) with q | q
  · rw [q] at hp ⊢
    exact ⟨vp_in_nI (by omega) (by omega), fun z => absurd z (by decide), fun _ => hp⟩
  · rw [q] at hp ⊢
    exact ⟨vp_in_nI (by omega) (by omega), fun _ => hp, fun z => absurd rfl z⟩
theorem sr_hasSlots_out (hE : nE ≤ 8192) (hc : r_core nW nE os cs fl hi G mR mI mC mY mZ mF mL mN mfr) (hn : ¬ ∃ i, gSl G a i) (hp : post 0) : wqR_hasSlots mR mY a post := by
  unfold wqR_hasSlots
  by_cases c : ∃ i, gHas G a i
  · obtain ⟨i, k, hk, hi'⟩ := c
    obtain ⟨o, ho, h1, h2, h3, h4, h5, h6, h7⟩ := r_obj hE hc hk.1 hi'
    have hodd : oH o % 2 = 1 := by
      rcases (show oH o % 2 = 1 ∨ oH o % 2 = 0 by omega) with q | q
      · exact q
      · exact absurd ⟨i, ⟨k, hk, hi'⟩, by rw [ao_sh h4]; exact q⟩ hn
    refine sr_has_in hk h1 h7 ⟨fun z => absurd z (by decide), fun _ => ⟨gReg_in hk, ?_⟩⟩
    rw [gReg_cl hk, h1]
    refine sr_placeOf h7 ?_
    rw [nI_clamp (by omega), h5.2.2.2.2.2.1, hodd]
    exact ⟨vp_in_nI (by omega) (by omega), fun z => absurd z (by decide), fun _ => hp⟩
  · exact sr_has_out hc.1 hc.2.1 c ⟨fun _ => hp, fun z => absurd rfl z⟩
theorem sr_hasBytes_out (hE : nE ≤ 8192) (hc : r_core nW nE os cs fl hi G mR mI mC mY mZ mF mL mN mfr) (hn : ¬ ∃ i, gBy G a i) (hp : post 0) : wqR_hasBytes mR mY a post := by
  by_cases c : ∃ i, gHas G a i
  · obtain ⟨i, k, hk, hi'⟩ := c
    obtain ⟨o, ho, h1, h2, h3, h4, h5, h6, h7⟩ := r_obj hE hc hk.1 hi'
    refine sr_hasBytes_in hE hk h1 h5 ?_
    have : oH o % 2 = 0 := by
      rcases (show oH o % 2 = 1 ∨ oH o % 2 = 0 by omega) with q | q
      · exact absurd ⟨i, ⟨k, hk, hi'⟩, by rw [ao_sh h4]; exact q⟩ hn
      · exact q
    rw [this]
    exact hp
  · unfold wqR_hasBytes
    exact sr_has_out hc.1 hc.2.1 c ⟨fun _ => hp, fun z => absurd rfl z⟩
theorem sr_sizeOf {k : Nat} {o : Ob_} (hE : nE ≤ 8192) (h : gReg a k) (hR : mR k = ov_ (oE o)) (ho : r_ob nE L cs mI mC mY mZ mF mL mN o) (hp : post (nI (oH o / 2))) : wqR_sizeOf mR mZ a post := by
  obtain ⟨q1, q2, q3, q4, q5, q6, q7, q8, q9⟩ := ho
  unfold wqR_sizeOf
  refine ⟨gReg_in h, ?_⟩
  rw [gReg_cl h, hR]
  refine sr_placeOf (by omega) ?_
  rw [nI_clamp (by omega), q7]
  exact ⟨vp_in_nI (by omega) (by omega), hp⟩
theorem sr_cellAt_10 {y1 : Int32} {pq : Int32 → Prop} {kx : Int32 → Int32 → Prop} : ∀ (i t : Nat) (v : Int32) (l : List Nat), t + i < 2 ^ 31 → zc_ch mN v l → (∀ c ∈ l, c < 65536) → ∀ (x : Nat), l[i]? = some x → (∀ y, kx (nI x) y) → wqR_cellAt_10 mF mN y1 (nI (t + i)) pq kx (i + 1) v (nI t) := by
  intro i
  induction i with
  | zero =>
    intro t v l ht hch hl x hx hk
    unfold wqR_cellAt_10
    refine ⟨fun _ => ?_, fun z => absurd (nI_le (by omega) (by omega)) z⟩
    cases l with
    | nil => simp at hx
    | cons d l =>
      obtain ⟨h1, h2⟩ := hch
      have : d = x := by simpa using hx
      rw [h1, this]
      exact hk _
  | succ i ih =>
    intro t v l ht hch hl x hx hk
    unfold wqR_cellAt_10
    cases l with
    | nil => simp at hx
    | cons d l =>
      obtain ⟨h1, h2⟩ := hch
      have hd := hl d List.mem_cons_self
      refine ⟨fun z => absurd z (nI_ge (by omega) (by omega)), fun _ => ?_⟩
      rw [h1, nI_clamp (by omega), zi_1, show t + (i + 1) = t + 1 + i by omega]
      exact ⟨vp_in_nI hd (by omega), ih (t + 1) (mN d) l (by omega) h2 (fun c hc => hl c (List.mem_cons_of_mem _ hc)) x (by simpa using hx) hk⟩
theorem sr_cellAt {o : Ob_} {i x : Nat} (hE : nE ≤ 8192) (hW : nW ≤ 65536) (hm : r_mem nW nE L os cs fl mI mC mY mZ mF mL mN mfr) (ho : o ∈ os) (hi : i < 2 ^ 31) (hx : (cs (oE o))[i]? = some x) (hp : post (nI x)) : wqR_cellAt mF mN (nI (oE o)) (nI i) post := by
  obtain ⟨q1, q2, q3, q4, q5, q6, q7, q8, q9⟩ := hm.1 o ho
  unfold wqR_cellAt
  refine ⟨vp_in_nI (by omega) (by omega), i + 1, ?_⟩
  rw [nI_clamp (by omega)]
  have := sr_cellAt_10 (y1 := nI (oE o)) (pq := post) (kx := fun z3 z4 => post z3) (mF := mF) i 0 (mF (oE o)) (cs (oE o)) (by omega) q8 (fun c hc => by have := r_clt hm.2.2.2 ho hc; omega) x hx (fun _ => hp)
  rw [Nat.zero_add] at this
  exact this
end RA

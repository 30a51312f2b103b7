/-! the class stands for a store -/
def c_core (nW nE : Nat) (os : List Ob_) (sl : List Nat) (D : Nat) (G : G_) (R f P S ro : Nat → Int32) (st : Int32) : Prop :=
  zo_inv nW nE os sl G.2.2 D R f P S ro ∧ (st = 0 ∨ st = 1 ∧ ∀ o ∈ os, zo_reach os R (oE o)) ∧ zo_abs bxC os R G.1 G.2.1
def c_rep (nW nE K : Nat) (G : G_) (R f : Nat → Int32) (us : Int32) (P S : Nat → Int32) (sc li : Int32) (ro : Nat → Int32) (rd st : Int32) : Prop :=
  ∃ os sl D, us = nI (zo_row os).length ∧ sc = nI sl.length ∧ li = nI G.2.2 ∧ rd = nI D ∧ G.2.2 ≤ K ∧ D ≤ K ∧ c_core nW nE os sl D G R f P S ro st
theorem c_rep.mono {nW nE K K' : Nat} {G : G_} {R f : Nat → Int32} {us : Int32} {P S : Nat → Int32} {sc li : Int32} {ro : Nat → Int32} {rd st : Int32} (h : c_rep nW nE K G R f us P S sc li ro rd st) (hK : K ≤ K') : c_rep nW nE K' G R f us P S sc li ro rd st := by
  obtain ⟨os, sl, D, h1, h2, h3, h4, h5, h6, h7⟩ := h
  exact ⟨os, sl, D, h1, h2, h3, h4, by omega, by omega, h7⟩
theorem zo_inv.wf {nW nE L D : Nat} {os : List Ob_} {sl : List Nat} {R f P S ro : Nat → Int32} (hE : nE ≤ 8192) (h : zo_inv nW nE os sl L D R f P S ro) : zo_wf os R := by
  obtain ⟨i1, i2, i3, i4, i5, i6, i7, i8, i9⟩ := h
  obtain ⟨r1, r2, r3, r4, r5, r6⟩ := i1
  refine ⟨r5, fun o ho => by have := (r4 o ho).1; omega, r6, i2, ?_, fun o ho => (r4 o ho).2.1⟩
  exact List.Pairwise.imp (fun hab => by omega) i7
/-! the tests of what is handed in -/
theorem nI_ex {a : Int32} {N : Nat} (hN : N < 2 ^ 31) : (∃ n, n ≤ N ∧ a = nI n) ↔ 0 ≤ a.toInt ∧ a.toInt ≤ N := by
  constructor
  · rintro ⟨n, hn, rfl⟩
    rw [nI_toInt (by omega)]
    omega
  · rintro ⟨h1, h2⟩
    have h3 : ¬ a < 0 := by
      rw [Int32.lt_iff_toInt_lt]
      show ¬ a.toInt < 0
      omega
    obtain ⟨j, hj, rfl⟩ := nI_of h3
    rw [nI_toInt hj] at h2
    exact ⟨j, by omega, rfl⟩
theorem gReg_iff {a : Int32} : (∃ k, gReg a k) ↔ 0 ≤ a.toInt ∧ a.toInt ≤ 31 := by
  rw [show (31 : Int) = ((31 : Nat) : Int) from rfl, ← nI_ex (N := 31) (by omega)]
  constructor
  · rintro ⟨k, h1, h2⟩
    exact ⟨k, by omega, h2⟩
  · rintro ⟨k, h1, h2⟩
    exact ⟨k, by omega, h2⟩
theorem gReg_u {a : Int32} {k j : Nat} (h1 : gReg a k) (h2 : gReg a j) : k = j := by
  obtain ⟨h1, rfl⟩ := h1
  obtain ⟨h2, h3⟩ := h2
  exact (nI_eq (by omega) (by omega)).mp h3
theorem gHas_u {G : G_} {a : Int32} {i j : Nat} (h1 : gHas G a i) (h2 : gHas G a j) : i = j := by
  obtain ⟨k, r1, e1⟩ := h1
  obtain ⟨k', r2, e2⟩ := h2
  rw [gReg_u r2 r1, e1] at e2
  exact Sum.inr.inj e2
theorem gIx_iff {a : Int32} {n : Nat} (hn : n < 2 ^ 31) : (∃ j, gIx a n j) ↔ 0 ≤ a.toInt ∧ a.toInt < n := by
  constructor
  · rintro ⟨j, h1, rfl⟩
    rw [nI_toInt (by omega)]
    omega
  · rintro ⟨h1, h2⟩
    obtain ⟨j, hj, rfl⟩ := (nI_ex (a := a) (N := n) hn).mpr ⟨h1, by omega⟩
    rw [nI_toInt (by omega)] at h2
    exact ⟨j, by omega, rfl⟩
section CN
variable {nW nE : Nat} {a b lo hi : Int32} {post : Prop} {pq : Int32 → Prop} {px : String → Prop} {R f P : Nat → Int32}
theorem sp_between_in (h : lo.toInt ≤ a.toInt) (h2 : a.toInt ≤ hi.toInt) (hp : pq 1) : wqT_isBetween a lo hi pq := by
  unfold wqT_isBetween
  refine ⟨fun c => ?_, fun _ => ⟨fun c => ?_, fun _ => hp⟩⟩
  · rw [Int32.lt_iff_toInt_lt] at c; omega
  · rw [Int32.lt_iff_toInt_lt] at c; omega
theorem sp_between_out (h : ¬ (lo.toInt ≤ a.toInt ∧ a.toInt ≤ hi.toInt)) (hp : pq 0) : wqT_isBetween a lo hi pq := by
  unfold wqT_isBetween
  refine ⟨fun c => hp, fun c => ⟨fun c => hp, fun c2 => ?_⟩⟩
  rw [Int32.lt_iff_toInt_lt] at c c2; omega
theorem sp_needBetween_in (h : lo.toInt ≤ a.toInt) (h2 : a.toInt ≤ hi.toInt) (hp : post) : wqT_needBetween a lo hi post px := by
  unfold wqT_needBetween
  exact sp_between_in h h2 ⟨fun q => absurd q (by decide), fun _ => hp⟩
theorem sp_needBetween_out (h : ¬ (lo.toInt ≤ a.toInt ∧ a.toInt ≤ hi.toInt)) (hp : px "java/lang/IllegalArgumentException") : wqT_needBetween a lo hi post px := by
  unfold wqT_needBetween
  exact sp_between_out h ⟨fun _ => hp, fun q => absurd rfl q⟩
theorem sp_needReg_in {k : Nat} (h : gReg a k) (hp : post) : wqT_needRegister a post px := by
  have := gReg_iff.mp ⟨k, h⟩
  unfold wqT_needRegister
  exact sp_between_in this.1 this.2 ⟨fun q => absurd q (by decide), fun _ => hp⟩
theorem sp_needReg_out (h : ¬ ∃ k, gReg a k) (hp : px "java/lang/IllegalArgumentException") : wqT_needRegister a post px := by
  rw [gReg_iff] at h
  unfold wqT_needRegister
  exact sp_between_out h ⟨fun _ => hp, fun q => absurd rfl q⟩
theorem gReg_in {k : Nat} (h : gReg a k) : vp_in a 32 := by
  obtain ⟨h1, rfl⟩ := h
  exact vp_in_nI h1 (by omega)
theorem gReg_cl {k : Nat} (h : gReg a k) : a.toNatClampNeg = k := by
  obtain ⟨h1, rfl⟩ := h
  exact nI_clamp (by omega)
theorem sp_needObj_in {k e : Nat} (h : gReg a k) (hR : R k = ov_ e) (he : e < 8192) (hp : post) : wqT_needObject nW nE R a post px := by
  unfold wqT_needObject
  refine sp_needReg_in h ⟨gReg_in h, ?_⟩
  rw [gReg_cl h, hR]
  exact sp_isObject_o he ⟨fun q => absurd q (by decide), fun _ => hp⟩
theorem sp_needObj_out {bx : List Int32 → Nat → Int32} {os : List Ob_} {G : G_} (hw : zo_wf os R) (h : zo_abs bx os R G.1 G.2.1) (hn : ¬ ∃ i, gHas G a i) (hp : px "java/lang/IllegalArgumentException") : wqT_needObject nW nE R a post px := by
  unfold wqT_needObject
  by_cases c : ∃ k, gReg a k
  · obtain ⟨k, hk⟩ := c
    refine sp_needReg_in hk ⟨gReg_in hk, ?_⟩
    rw [gReg_cl hk]
    cases hg : G.1 k with
    | inl v =>
      obtain ⟨h1, h2⟩ := zq_val hw h hk.1 hg
      rw [h1]
      exact sp_isObject_n h2 ⟨fun _ => hp, fun q => absurd rfl q⟩
    | inr i => exact absurd ⟨i, k, hk, hg⟩ hn
  · exact sp_needReg_out c hp
end CN
section CO
variable {nW nE D : Nat} {os : List Ob_} {sl : List Nat} {G : G_} {R f P S ro : Nat → Int32} {st : Int32}
theorem c_core.wf (hE : nE ≤ 8192) (h : c_core nW nE os sl D G R f P S ro st) : zo_wf os R := h.1.wf hE
theorem c_obj {k i : Nat} (hE : nE ≤ 8192) (hW : nW ≤ 65536) (hc : c_core nW nE os sl D G R f P S ro st) (hk : k < 32) (hi : G.1 k = .inr i) :
    ∃ pre o post, os = pre ++ o :: post ∧ R k = ov_ (oE o) ∧ oI o = i ∧ zo_reach os R (oE o) ∧ zo_ao bxC os o = G.2.1 i ∧ zo_ob nW nE f P (oE o) o (zo_row pre).length ∧ oE o < nE ∧ (oB o).length = bW_ (oH o) ∧ oH o ≤ 32001 := by
  obtain ⟨o, ho, h1, h2, h3, h4⟩ := zq_obj (hc.wf hE) hc.2.2 hk hi
  obtain ⟨pre, post, rfl⟩ := zo_split ho
  have hm := hc.1.1.2.2.2.1 o ho
  exact ⟨pre, o, post, rfl, h1, h2, h3, h4, hc.1.1.ob hE hW, hm.1, hm.2.1, hm.2.2⟩
theorem ao_cl {bx : List Int32 → Nat → Int32} {o : Ob_} {a : AO_} (h : zo_ao bx os o = a) : a.1 = zv_ os (oC o) := by rw [← h]; rfl
theorem ao_sh {bx : List Int32 → Nat → Int32} {o : Ob_} {a : AO_} (h : zo_ao bx os o = a) : a.2.1 = oH o := by rw [← h]; rfl
theorem ao_sl {bx : List Int32 → Nat → Int32} {o : Ob_} {a : AO_} (h : zo_ao bx os o = a) : a.2.2.1 = (zo_slots o).map (zv_ os) := by rw [← h]; rfl
theorem ao_by {bx : List Int32 → Nat → Int32} {o : Ob_} {a : AO_} (h : zo_ao bx os o = a) : a.2.2.2 = if oH o % 2 = 1 then (List.range (oH o / 2)).map (bx (oB o)) else [] := by rw [← h]; rfl
theorem sl_of {o : Ob_} (h : oH o % 2 = 0) : zo_slots o = oB o := by
  unfold zo_slots
  rw [if_neg (by omega)]
theorem bW_even {h : Nat} (hh : h % 2 = 0) : bW_ h = h / 2 := by
  unfold bW_
  rw [if_neg (by omega)]
theorem bW_odd {h : Nat} (hh : h % 2 = 1) : bW_ h = (h / 2 + 3) / 4 := by
  unfold bW_
  rw [if_pos hh]
theorem zo_reach_reg {k : Nat} {v : Int32} {e : Nat} (hk : R k = 0 ∨ ¬ R k &&& (1 : Int32) = 0) (h : zo_reach os R e) : zo_reach os (upd R k v) e := by
  intro X hX hc
  refine h X ?_ hc
  intro r hr e' hd
  refine hX r hr e' ?_
  have : r ≠ k := by
    rintro rfl
    rw [zo_dec_n hk] at hd
    cases hd
  rw [pk_un this]
  exact hd
/-- a register is set -/
theorem c_setReg {k : Nat} {a v : Int32} {post : (Nat → Int32) → Int32 → Prop} (hE : nE ≤ 8192) (hc : c_core nW nE os sl D G R f P S ro st) (hk : gReg a k) (hv : zo_ok os R v)
    (h : ∀ st', c_core nW nE os sl D (gR_ G k (zv_ os v)) (upd R k v) f P S ro st' → post (upd R k v) st') : wqT_setRegister nW nE R st a v post := by
  unfold wqT_setRegister
  rw [gReg_cl hk]
  refine ⟨gReg_in hk, ?_⟩
  have hw := hc.wf hE
  obtain ⟨c1, c2, c3⟩ := hc
  obtain ⟨g1, g2, g3⟩ := zo_reg (r := k) hw c3 hv
  have hi : zo_inv nW nE os sl G.2.2 D (upd R k v) f P S ro := by
    obtain ⟨i1, i2, i3, i4, i5, i6, i7, i8, i9⟩ := c1
    exact ⟨i1, g1.2.2.2.1, i3, i4, i5, i6, i7, i8, i9⟩
  rcases hw.2.2.2.1 k hk.1 with q | ⟨o, ho, q⟩
  · refine sp_letGo_n q ⟨gReg_in hk, h _ ⟨hi, ?_, g2⟩⟩
    rcases c2 with c2 | ⟨c2, c4⟩
    · exact Or.inl c2
    · exact Or.inr ⟨c2, fun o ho => zo_reach_reg q (c4 o ho)⟩
  · rw [q]
    exact sp_letGo_o (hw.2.1 o ho) ⟨gReg_in hk, h _ ⟨hi, Or.inl rfl, g2⟩⟩
theorem zo_row_set {pre post : List Ob_} {o o' : Ob_} {k : Nat} {x : Int32} (h : zo_flat o' = (zo_flat o).set k x) (hk : k < (zo_flat o).length) : zo_row (pre ++ o' :: post) = (zo_row (pre ++ o :: post)).set ((zo_row pre).length + k) x := by
  rw [zo_row_app, zo_row_app, List.set_append_right _ _ (by omega)]
  congr 1
  show zo_flat o' ++ zo_row post = (zo_flat o ++ zo_row post).set _ x
  rw [show (zo_row pre).length + k - (zo_row pre).length = k by omega, List.set_append_left _ _ hk, h]
theorem zo_is_set {f : Nat → Int32} {l : List Int32} {k : Nat} {x : Int32} (h : zo_is f l 0) : zo_is (upd f k x) (l.set k x) 0 := by
  intro j y hj
  rw [Nat.zero_add]
  by_cases c : k = j
  · subst c
    rw [pk_us]
    have hlt : k < l.length := by
      have := (List.getElem?_eq_some_iff.mp hj).1
      rwa [List.length_set] at this
    rw [List.getElem?_set_self hlt] at hj
    exact Option.some.inj hj
  · rw [pk_un (fun q => c q.symm)]
    rw [List.getElem?_set_ne c] at hj
    have := h j y hj
    rwa [Nat.zero_add] at this
theorem zo_Pl_mod {pre post : List Ob_} {o o' : Ob_} {P : Nat → Int32} (hE : oE o' = oE o) (hl : (oB o').length = (oB o).length) (h : zo_Pl (pre ++ o :: post) P) : zo_Pl (pre ++ o' :: post) P := by
  intro pr x po he
  rcases List.append_eq_append_iff.mp he with ⟨a, h1, h2⟩ | ⟨b, h1, h2⟩
  · cases a with
    | nil =>
      simp at h1 h2
      obtain ⟨rfl, rfl⟩ := h2
      rw [hE, h1]
      exact h pre o _ rfl
    | cons c a =>
      simp at h2
      obtain ⟨rfl, rfl⟩ := h2
      have h3 := h (pre ++ o :: a) x po (by simp)
      rw [h3, h1, zo_row_app, zo_row_app]
      show nI (zo_row pre ++ (zo_flat o ++ zo_row a)).length = nI (zo_row pre ++ (zo_flat o' ++ zo_row a)).length
      simp only [List.length_append, zo_flat_len, hl]
  · cases b with
    | nil =>
      simp at h1 h2
      obtain ⟨rfl, rfl⟩ := h2
      rw [hE, ← h1]
      exact h pre o _ rfl
    | cons c b =>
      simp at h2
      obtain ⟨rfl, rfl⟩ := h2
      exact h pr x (b ++ o :: post) (by rw [h1]; simp)
theorem zo_reach_mod {pre post : List Ob_} {o o' : Ob_} {e : Nat} (hE : oE o' = oE o) (hk : ∀ v ∈ zo_kids o, ∀ e, zo_dec v = some e → ∃ v' ∈ zo_kids o', zo_dec v' = some e) (h : zo_reach (pre ++ o :: post) R e) : zo_reach (pre ++ o' :: post) R e := by
  intro X hX hc
  refine h X hX ?_
  intro x hx hxX v hv e' hd
  have hcase : x = o ∨ x ∈ pre ++ o' :: post := by
    rcases List.mem_append.mp hx with q | q
    · exact Or.inr (List.mem_append_left _ q)
    · rcases List.mem_cons.mp q with q | q
      · exact Or.inl q
      · exact Or.inr (List.mem_append_right _ (List.mem_cons_of_mem _ q))
  rcases hcase with rfl | q
  · obtain ⟨v', hv', hd'⟩ := hk v hv e' hd
    exact hc o' (by simp) (by rw [hE]; exact hxX) v' hv' e' hd'
  · exact hc x q hxX v hv e' hd
/-- an object is changed -/
theorem c_mod {pre post : List Ob_} {o o' : Ob_} {f' : Nat → Int32} {st' : Int32} (hE8 : nE ≤ 8192) (hc : c_core nW nE (pre ++ o :: post) sl D G R f P S ro st) (hE : oE o' = oE o) (hI : oI o' = oI o) (hH : oH o' = oH o) (hl : (oB o').length = (oB o).length)
    (hf : zo_is f' (zo_row (pre ++ o' :: post)) 0) (hk : ∀ v ∈ zo_kids o', zo_ok (pre ++ o :: post) R v) (hst : st' = 0 ∨ st' = st ∧ (∀ v ∈ zo_kids o, ∀ e, zo_dec v = some e → ∃ v' ∈ zo_kids o', zo_dec v' = some e)) :
    c_core nW nE (pre ++ o' :: post) sl D (gO_ G (oI o) (zo_ao bxC (pre ++ o :: post) o')) R f' P S ro st' ∧ (zo_row (pre ++ o' :: post)).length = (zo_row (pre ++ o :: post)).length := by
  have hw := hc.wf hE8
  obtain ⟨c1, c2, c3⟩ := hc
  obtain ⟨i1, i2, i3, i4, i5, i6, i7, i8, i9⟩ := c1
  obtain ⟨r1, r2, r3, r4, r5, r6⟩ := i1
  have hob := r4 o (by simp)
  obtain ⟨g1, g2, g3⟩ := zo_mod (o' := o') hE hI (by rw [hl, hob.2.1, hH]) hw c3 hk
  have hlen : (zo_row (pre ++ o' :: post)).length = (zo_row (pre ++ o :: post)).length := by
    rw [zo_row_app, zo_row_app]
    show (zo_row pre ++ (zo_flat o' ++ zo_row post)).length = (zo_row pre ++ (zo_flat o ++ zo_row post)).length
    simp only [List.length_append, zo_flat_len, hl]
  have mE : (pre ++ o' :: post).map oE = (pre ++ o :: post).map oE := by simp only [List.map_append, List.map_cons]; rw [hE]
  have mI : (pre ++ o' :: post).map oI = (pre ++ o :: post).map oI := by simp only [List.map_append, List.map_cons]; rw [hI]
  have hmem : ∀ x ∈ pre ++ o' :: post, x = o' ∨ x ∈ pre ++ o :: post := by
    intro x hx
    rcases List.mem_append.mp hx with q | q
    · exact Or.inr (List.mem_append_left _ q)
    · rcases List.mem_cons.mp q with q | q
      · exact Or.inl q
      · exact Or.inr (List.mem_append_right _ (List.mem_cons_of_mem _ q))
  refine ⟨⟨⟨⟨hf, by rw [hlen]; exact r2, zo_Pl_mod hE hl r3, ?_, g1.1, g1.2.2.1⟩, g1.2.2.2.1, i3, by rw [mE]; exact i4, i5, ?_, by rw [mI]; exact i7, ?_, i9⟩, ?_, g2⟩, hlen⟩
  · intro x hx
    rcases hmem x hx with rfl | q
    · rw [hE, hl, hH]; exact hob
    · exact r4 x q
  · rw [← i6]; simp
  · intro x hx
    rcases hmem x hx with rfl | q
    · rw [hI]; exact i8 o (by simp)
    · exact i8 x q
  · rcases hst with hst | ⟨rfl, hst⟩
    · exact Or.inl hst
    · rcases c2 with c2 | ⟨c2, c4⟩
      · exact Or.inl c2
      · refine Or.inr ⟨c2, fun x hx => ?_⟩
        rcases hmem x hx with rfl | q
        · rw [hE]; exact zo_reach_mod hE hst (c4 o (by simp))
        · exact zo_reach_mod hE hst (c4 x q)
end CO

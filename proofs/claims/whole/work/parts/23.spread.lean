/-! the objects in the row, and the walk over all that is reached -/
def zo_slots (o : Ob_) : List Int32 := if oH o % 2 = 1 then [] else oB o
def zo_kids (o : Ob_) : List Int32 := oC o :: zo_slots o
/-- a value is no object, or one of os -/
def zo_Vo (os : List Ob_) (v : Int32) : Prop := (v = 0 ∨ ¬ v &&& (1 : Int32) = 0) ∨ ∃ o ∈ os, v = ov_ (oE o)
/-- the row f holds the objects os, and the table P leads to them -/
def zo_rep (nW nE : Nat) (os : List Ob_) (f P : Nat → Int32) : Prop :=
  zo_is f (zo_row os) 0 ∧ (zo_row os).length ≤ nW ∧ (∀ pre o post, os = pre ++ o :: post → P (oE o) = nI (zo_row pre).length) ∧
  (∀ o ∈ os, oE o < nE ∧ (oB o).length = bW_ (oH o) ∧ oH o ≤ 32001) ∧ (os.map oE).Nodup ∧ (∀ o ∈ os, ∀ v ∈ zo_kids o, zo_Vo os v)
def zo_clos (os : List Ob_) (X : Nat → Prop) : Prop := ∀ o ∈ os, X (oE o) → ∀ v ∈ zo_kids o, ∀ e, zo_dec v = some e → X e
theorem zo_Vo.V {nW nE : Nat} {os : List Ob_} {f P : Nat → Int32} {v : Int32} (h : zo_rep nW nE os f P) (hv : zo_Vo os v) : zo_V nE v := by
  rcases hv with hv | ⟨o, ho, rfl⟩
  · exact Or.inl hv
  · exact Or.inr ⟨oE o, (h.2.2.2.1 o ho).1, rfl⟩
theorem zo_rep.ob {nW nE : Nat} {pre post : List Ob_} {o : Ob_} {f P : Nat → Int32} (hE : nE ≤ 8192) (hW : nW ≤ 65536) (h : zo_rep nW nE (pre ++ o :: post) f P) : zo_ob nW nE f P (oE o) o (zo_row pre).length := by
  obtain ⟨h1, h2, h3, h4, h5, h6⟩ := h
  have hm := h4 o (by simp)
  rw [zo_row_app, zo_is_app] at h1
  have h1 := h1.2
  rw [show zo_row (o :: post) = zo_flat o ++ zo_row post from rfl, zo_is_app] at h1
  rw [zo_row_app, List.length_append, show zo_row (o :: post) = zo_flat o ++ zo_row post from rfl, List.length_append, zo_flat_len] at h2
  refine ⟨hm.1, h3 pre o post rfl, by simpa using h1.1, by omega, by omega, hE, hW⟩
theorem zo_split {os : List Ob_} {o : Ob_} (h : o ∈ os) : ∃ pre post, os = pre ++ o :: post := List.append_of_mem h
theorem zo_one {os : List Ob_} (h : (os.map oE).Nodup) {a b : Ob_} (ha : a ∈ os) (hb : b ∈ os) (e : oE a = oE b) : a = b := by
  obtain ⟨pre, post, rfl⟩ := zo_split ha
  rw [List.map_append, List.map_cons, List.nodup_append] at h
  obtain ⟨-, h2, h3⟩ := h
  rcases List.mem_append.mp hb with q | q
  · exact absurd e.symm (h3 (oE b) (List.mem_map_of_mem q) (oE a) List.mem_cons_self)
  · rcases List.mem_cons.mp q with q | q
    · exact q.symm
    · have := (List.nodup_cons.mp h2).1
      exact absurd (by rw [e]; exact List.mem_map_of_mem q) this
theorem zo_add_pre (rl : List Nat) (e : Nat) : ∃ t, zo_add rl e = rl ++ t := by
  unfold zo_add
  split
  · exact ⟨[], by simp⟩
  · exact ⟨[e], rfl⟩
theorem zo_step_pre (rl : List Nat) (v : Int32) : ∃ t, zo_step rl v = rl ++ t := by
  unfold zo_step
  split
  · exact ⟨[], by simp⟩
  · exact zo_add_pre _ _
theorem zo_add_mem (rl : List Nat) (e : Nat) : e ∈ zo_add rl e := by
  unfold zo_add
  split
  · assumption
  · simp
theorem zo_add_of {rl : List Nat} {e x : Nat} (h : x ∈ zo_add rl e) : x ∈ rl ∨ x = e := by
  unfold zo_add at h
  split at h
  · exact Or.inl h
  · simpa using h
theorem zo_fold_pre : ∀ (l : List Int32) (rl : List Nat), ∃ t, l.foldl zo_step rl = rl ++ t := by
  intro l
  induction l with
  | nil => intro rl; exact ⟨[], by simp⟩
  | cons v l ih =>
    intro rl
    obtain ⟨t, ht⟩ := zo_step_pre rl v
    obtain ⟨t2, ht2⟩ := ih (zo_step rl v)
    exact ⟨t ++ t2, by rw [List.foldl_cons, ht2, ht, List.append_assoc]⟩
theorem zo_fold_sub {l : List Int32} {rl : List Nat} {x : Nat} (h : x ∈ rl) : x ∈ l.foldl zo_step rl := by
  obtain ⟨t, ht⟩ := zo_fold_pre l rl
  rw [ht]
  exact List.mem_append_left _ h
theorem zo_step_mem {rl : List Nat} {v : Int32} {e : Nat} (h : zo_dec v = some e) : e ∈ zo_step rl v := by
  unfold zo_step
  rw [h]
  exact zo_add_mem _ _
theorem zo_fold_mem : ∀ (l : List Int32) (rl : List Nat) (v : Int32) (e : Nat), v ∈ l → zo_dec v = some e → e ∈ l.foldl zo_step rl := by
  intro l
  induction l with
  | nil => intro rl v e h; simp at h
  | cons w l ih =>
    intro rl v e h hd
    rw [List.foldl_cons]
    rcases List.mem_cons.mp h with h | h
    · subst h
      exact zo_fold_sub (zo_step_mem hd)
    · exact ih _ v e h hd
theorem zo_fold_of : ∀ (l : List Int32) (rl : List Nat) (x : Nat), x ∈ l.foldl zo_step rl → x ∈ rl ∨ ∃ v ∈ l, zo_dec v = some x := by
  intro l
  induction l with
  | nil => intro rl x h; exact Or.inl h
  | cons w l ih =>
    intro rl x h
    rw [List.foldl_cons] at h
    rcases ih _ x h with h | ⟨v, hv, hd⟩
    · unfold zo_step at h
      split at h
      · exact Or.inl h
      · rename_i e he
        rcases zo_add_of h with h | h
        · exact Or.inl h
        · exact Or.inr ⟨w, List.mem_cons_self, by rw [he, h]⟩
    · exact Or.inr ⟨v, List.mem_cons_of_mem _ hv, hd⟩
/-- what spreading from rl0 has done so far: rl, of which the first i are dealt with -/
def zo_J (os : List Ob_) (rl0 rl : List Nat) (i : Nat) : Prop :=
  (∀ x ∈ rl0, x ∈ rl) ∧ (∀ x ∈ rl, ∃ o ∈ os, oE o = x) ∧ (∀ x ∈ rl, ∀ X : Nat → Prop, (∀ y ∈ rl0, X y) → zo_clos os X → X x) ∧
  (∀ k x, rl[k]? = some x → k < i → ∀ o ∈ os, oE o = x → ∀ v ∈ zo_kids o, ∀ e, zo_dec v = some e → e ∈ rl)
theorem zo_J_next {os : List Ob_} {rl0 rl : List Nat} {i : Nat} {o : Ob_} (hn : (os.map oE).Nodup) (hv : ∀ o ∈ os, ∀ v ∈ zo_kids o, zo_Vo os v) (hle : ∀ o ∈ os, oE o < 8192) (h : zo_J os rl0 rl i) (ho : o ∈ os) (hi : rl[i]? = some (oE o)) : zo_J os rl0 ((zo_kids o).foldl zo_step rl) (i + 1) := by
  obtain ⟨h1, h2, h3, h4⟩ := h
  refine ⟨fun x hx => zo_fold_sub (h1 x hx), ?_, ?_, ?_⟩
  · intro x hx
    rcases zo_fold_of _ _ _ hx with hx | ⟨v, hv', hd⟩
    · exact h2 x hx
    · rcases hv o ho v hv' with q | ⟨o', ho', rfl⟩
      · rw [zo_dec_n q] at hd; cases hd
      · rw [zo_dec_ov (hle o' ho')] at hd
        cases hd
        exact ⟨o', ho', rfl⟩
  · intro x hx X hX hc
    rcases zo_fold_of _ _ _ hx with hx | ⟨v, hv', hd⟩
    · exact h3 x hx X hX hc
    · exact hc o ho (h3 (oE o) (List.mem_of_getElem? hi) X hX hc) v hv' x hd
  · intro k x hk hki o' ho' he v hv' e hd
    obtain ⟨t, ht⟩ := zo_fold_pre (zo_kids o) rl
    have hilt : i < rl.length := (List.getElem?_eq_some_iff.mp hi).1
    rw [ht, List.getElem?_append_left (by omega)] at hk
    by_cases c : k < i
    · exact zo_fold_sub (h4 k x hk c o' ho' he v hv' e hd)
    · have hki' : k = i := by omega
      subst hki'
      rw [hi] at hk
      have : o' = o := zo_one hn ho' ho (by rw [he]; exact (Option.some.inj hk).symm)
      subst this
      exact zo_fold_mem _ _ v e hv' hd
theorem sp_endOfSlots {nW nE e p : Nat} {f P : Nat → Int32} {o : Ob_} {post : Int32 → Prop} (h : zo_ob nW nE f P e o p) (hb : (oB o).length = bW_ (oH o)) (hp : post (nI (p + 4 + (zo_slots o).length))) : wqM_endOfSlots nW nE f (nI p) post := by
  have hsh := h.sh
  obtain ⟨h1, h2, h3, h4, h5, h6, h7⟩ := h
  unfold wqM_endOfSlots
  rw [zi_3, zi_4]
  refine sp_word h7 (by omega) ?_
  rw [hsh]
  refine sp_isOfBytes (by omega) ?_
  unfold zo_slots at hp
  by_cases c : oH o % 2 = 1
  · rw [if_pos c] at hp ⊢
    refine ⟨fun q => absurd q (by decide), fun _ => ?_⟩
    rw [zi_0]
    simpa using hp
  · rw [if_neg c] at hp ⊢
    refine ⟨fun _ => sp_bodyWords (by omega) ?_, fun q => absurd rfl q⟩
    rw [nI_add, ← hb]
    exact hp
theorem zo_slots_len (o : Ob_) : (zo_slots o).length ≤ (oB o).length := by
  unfold zo_slots
  split <;> simp
theorem zo_ob.sl {nW nE e p : Nat} {f P : Nat → Int32} {o : Ob_} (h : zo_ob nW nE f P e o p) : zo_is f (zo_slots o) (p + 4) := by
  unfold zo_slots
  split
  · exact zo_is_nil
  · intro k x hk
    exact h.bd hk
theorem sp_spread_2 {nW nE D : Nat} {os : List Ob_} {f P : Nat → Int32} {post : (Nat → Int32) → Int32 → (Nat → Int32) → Prop} {kx : Int32 → (Nat → Int32) → Int32 → (Nat → Int32) → Prop} (hE : nE ≤ 8192) (hW : nW ≤ 65536) (hD : D < 2 ^ 31) (hrep : zo_rep nW nE os f P) (rl0 : List Nat)
    (K : ∀ x rl rc rn ro, zo_Mv nE D rl rc rn ro → zo_J os rl0 rl rl.length → kx x rc rn ro) :
    ∀ (n i : Nat) (rl : List Nat) (rc ro : Nat → Int32) (rn : Int32), nE - i < n → i ≤ rl.length → zo_Mv nE D rl rc rn ro → zo_J os rl0 rl i → wqM_spread_2 nW nE f P (nI D) post kx n (nI i) rc rn ro := by
  intro n
  induction n with
  | zero => intro i rl rc ro rn h; omega
  | succ n ih =>
    intro i rl rc ro rn hn hi hM hJ
    have hlen : rl.length ≤ nE := zo_pigeon nE rl hM.2.2.1 hM.2.2.2.1
    have fin : i = rl.length → kx (nI i) rc rn ro := fun q => K _ rl rc rn ro hM (by rw [← q]; exact hJ)
    unfold wqM_spread_2
    refine ⟨fun c => fin ?_, fun c => ⟨fun c2 => fin ?_, fun c2 => ?_⟩⟩
    · have := (nI_leI (by omega) (by omega)).mp c
      omega
    · rw [hM.1] at c2
      have := (nI_leI (by omega) (by omega)).mp c2
      omega
    · rw [hM.1, nI_leI (by omega) (by omega)] at c2
      have hilt : i < rl.length := by omega
      obtain ⟨o, ho, hoe⟩ := hJ.2.1 (rl[i]) (List.getElem_mem hilt)
      have hx : rl[i]? = some (oE o) := by rw [List.getElem?_eq_getElem hilt, hoe]
      have hrc : rc i = ov_ (oE o) := by
        have := hM.2.1 i (ov_ (oE o)) (by rw [List.getElem?_map, hx]; rfl)
        simpa using this
      obtain ⟨pre, post', rfl⟩ := zo_split ho
      have hob := hrep.ob hE hW
      have hoin := hrep.2.2.2.1 o ho
      have hcl := hob.cl
      have hobs := id hob
      obtain ⟨q1, q2, q3, q4, q5, q6, q7⟩ := hob
      rw [nI_clamp (by omega), hrc]
      refine ⟨vp_in_nI (by omega) (by omega), sp_place hE q1 ?_⟩
      rw [q2, zi_2]
      refine sp_word hW (by omega) ?_
      rw [hcl]
      have hvk := hrep.2.2.2.2.2 o ho
      refine sp_reach hE hD hM ((hvk _ List.mem_cons_self).V hrep) ?_
      intro rc1 rn1 ro1 hM1
      refine sp_endOfSlots hobs hoin.2.1 ?_
      have hsl := zo_slots_len o
      refine ⟨(zo_slots o).length + 1, ?_⟩
      rw [zi_4, zi_min (by omega) (by omega), if_pos (by rw [← nI_0]; exact nI_lt (by omega) (by omega))]
      refine sp_spread_64 hE hW hD (zo_slots o) _ _ _ _ _ hobs.sl (by omega) (fun v hv => (hvk v (List.mem_cons_of_mem _ hv)).V hrep) hM1 ?_
      intro x rc2 rn2 ro2 hM2
      rw [zi_1]
      have hJ2 := zo_J_next hrep.2.2.2.2.1 hrep.2.2.2.2.2 (fun o' ho' => Nat.lt_of_lt_of_le (hrep.2.2.2.1 o' ho').1 hE) hJ ho hx
      refine ih (i + 1) ((zo_kids o).foldl zo_step rl) rc2 ro2 rn2 (by omega) ?_ hM2 hJ2
      obtain ⟨t, ht⟩ := zo_fold_pre (zo_kids o) rl
      rw [ht]
      simp
      omega
theorem sp_spread {nW nE D : Nat} {os : List Ob_} {f P rc ro : Nat → Int32} {rn : Int32} {rl0 : List Nat} {post : (Nat → Int32) → Int32 → (Nat → Int32) → Prop} (hE : nE ≤ 8192) (hW : nW ≤ 65536) (hD : D < 2 ^ 31) (hrep : zo_rep nW nE os f P)
    (hM : zo_Mv nE D rl0 rc rn ro) (hin : ∀ x ∈ rl0, ∃ o ∈ os, oE o = x) (h : ∀ rl rc' rn' ro', zo_Mv nE D rl rc' rn' ro' → zo_J os rl0 rl rl.length → post rc' rn' ro') : wqM_spread nW nE f P rc rn ro (nI D) post := by
  unfold wqM_spread
  refine ⟨nE + 1, ?_⟩
  refine sp_spread_2 hE hW hD hrep rl0 (fun x rl rc' rn' ro' m j => h rl rc' rn' ro' m j) (nE + 1) 0 rl0 rc ro rn (by omega) (by omega) hM ?_
  exact ⟨fun x hx => hx, hin, fun x hx X hX _ => hX x hx, fun k x _ hk => absurd hk (by omega)⟩

/-! the beginning, and all of it -/
theorem sp_cell {L k : Nat} {xs : Nat → Int32} {post : Int32 → Prop} (hL : L ≤ 2562) (hk : k < 2) (h : post (if L ≤ k then 0 else xs k)) : wqL_cell L xs (nI k) post := by
  unfold wqL_cell
  rw [nI_clamp (by omega)]
  refine ⟨fun z => ?_, fun z => ?_⟩
  · rw [nI_leI (by omega) (by omega)] at z
    rw [if_pos z] at h
    exact h
  · rw [nI_leI (by omega) (by omega)] at z
    rw [if_neg z] at h
    exact ⟨vp_in_nI (by omega) (by omega), h⟩
/-- what is chosen of a number and its bounds -/
def sel_ (a : Int32) (lo up n : Nat) : Prop := (((lo : Int) ≤ a.toInt ∧ a.toInt ≤ up) ∧ a = nI n ∧ lo ≤ n ∧ n ≤ up) ∨ (¬ ((lo : Int) ≤ a.toInt ∧ a.toInt ≤ up) ∧ n = up)
theorem sel_ex (a : Int32) {lo up : Nat} (hu : up < 2 ^ 31) : ∃ n, sel_ a lo up n := by
  by_cases q : (lo : Int) ≤ a.toInt ∧ a.toInt ≤ up
  · obtain ⟨n, hn, rfl⟩ := (nI_ex (a := a) (N := up) hu).mpr ⟨by omega, q.2⟩
    refine ⟨n, Or.inl ⟨q, rfl, ?_, hn⟩⟩
    rw [nI_toInt (by omega)] at q
    omega
  · exact ⟨up, Or.inr ⟨q, rfl⟩⟩
theorem sel_le {a : Int32} {lo up n : Nat} (h : sel_ a lo up n) (hl : lo ≤ up) : lo ≤ n ∧ n ≤ up := by
  rcases h with ⟨-, -, h1, h2⟩ | ⟨-, rfl⟩
  · exact ⟨h1, h2⟩
  · exact ⟨hl, Nat.le_refl _⟩
theorem sp_M_init {nW nE : Nat} {post : (Nat → Int32) → Prop} (hE : nE ≤ 8192) (h : ∀ z, (∀ i, i < nE → z i = nI i) → post z) : wqM_init nW nE post := by
  unfold wqM_init
  refine ⟨nE + 1, ?_⟩
  have loop : ∀ (m t : Nat) (z : Nat → Int32), t + m = nE → (∀ i, i < t → z i = nI i) → wqM_init_41 nW nE (nI nW) (nI nE) post (fun z3_41 k20e_41 => post k20e_41) (m + 1) (nI t) z := by
    intro m
    induction m with
    | zero =>
      intro t z ht hz
      unfold wqM_init_41
      have : t = nE := by omega
      subst this
      exact ⟨fun _ => h z hz, fun q => absurd (nI_le (Nat.le_refl _) (by omega)) q⟩
    | succ m ih =>
      intro t z ht hz
      unfold wqM_init_41
      refine ⟨fun q => absurd q (nI_ge (by omega) (by omega)), fun _ => ⟨vp_in_nI (by omega) (by omega), ?_⟩⟩
      rw [nI_clamp (by omega), zi_1]
      refine ih (t + 1) _ (by omega) ?_
      intro i hi
      by_cases q : i = t
      · subst q
        exact pk_us
      · rw [pk_un q]
        exact hz i (by omega)
  exact loop nE 0 (fun _ => 0) (by omega) (fun i hi => by omega)
theorem sp_T_init {a1 a2 : Int32} {nW nE : Nat} {post : Nat → Nat → (Nat → Int32) → Prop} (hw : sel_ a1 64 65536 nW) (he : sel_ a2 16 8192 nE) (h : ∀ z, (∀ i, i < nE → z i = nI i) → post nW nE z) : wqT_init a1 a2 post := by
  have bw := sel_le hw (by omega)
  have be := sel_le he (by omega)
  have fin : wqM_init nW nE (fun z_S => post nW nE z_S) := sp_M_init be.2 h
  unfold wqT_init
  rcases hw with ⟨q1, w2, -, -⟩ | ⟨q1, w2⟩
  · refine sp_between_in q1.1 q1.2 ⟨fun z => absurd z (by decide), fun _ => ?_⟩
    rcases he with ⟨q2, v2, -, -⟩ | ⟨q2, v2⟩
    · exact sp_between_in q2.1 q2.2 ⟨fun z => absurd z (by decide), fun _ => ⟨nW, nE, w2, v2, bw.2, be.2, fin⟩⟩
    · exact sp_between_out q2 ⟨fun _ => ⟨nW, nE, w2, by rw [v2]; rfl, bw.2, be.2, fin⟩, fun z => absurd rfl z⟩
  · refine sp_between_out q1 ⟨fun _ => ?_, fun z => absurd rfl z⟩
    rcases he with ⟨q2, v2, -, -⟩ | ⟨q2, v2⟩
    · exact sp_between_in q2.1 q2.2 ⟨fun z => absurd z (by decide), fun _ => ⟨nW, nE, by rw [w2]; rfl, v2, bw.2, be.2, fin⟩⟩
    · exact sp_between_out q2 ⟨fun _ => ⟨nW, nE, by rw [w2]; rfl, by rw [v2]; rfl, bw.2, be.2, fin⟩, fun z => absurd rfl z⟩
theorem sr_init_58 {y1 y2 : Int32} {nW nE : Nat} {post : Int32 → Int32 → (Nat → Int32) → Prop} (hW : nW ≤ 65536) (h : ∀ z, (∀ i, i < nW → z i = if i + 1 < nW then nI (i + 1) else -1) → post (nI nW) (nI nE) z) : wqR_init_58 y1 y2 (nI nW) (nI nE) post := by
  unfold wqR_init_58
  refine ⟨nW + 1, ?_⟩
  have loop : ∀ (m t : Nat) (z : Nat → Int32), t + m = nW → (∀ i, i < t → z i = if i + 1 < nW then nI (i + 1) else -1) → wqR_init_139 y1 y2 (nI nW) (nI nE) post (fun z3_139 k132e_139 => post (nI nW) (nI nE) k132e_139) (m + 1) (nI t) z := by
    intro m
    induction m with
    | zero =>
      intro t z ht hz
      unfold wqR_init_139
      have : t = nW := by omega
      subst this
      exact ⟨fun _ => h z hz, fun q => absurd (nI_le (Nat.le_refl _) (by omega)) q⟩
    | succ m ih =>
      intro t z ht hz
      unfold wqR_init_139
      refine ⟨fun q => absurd q (nI_ge (by omega) (by omega)), fun _ => ?_⟩
      rw [nI_clamp (by omega), zi_1]
      have step : ∀ v : Int32, v = (if t + 1 < nW then nI (t + 1) else -1) → ∀ i, i < t + 1 → upd z t v i = if i + 1 < nW then nI (i + 1) else -1 := by
        intro v hv i hi
        by_cases q : i = t
        · subst q
          rw [pk_us, hv]
        · rw [pk_un q]
          exact hz i (by omega)
      refine ⟨fun q => ⟨vp_in_nI (by omega) (by omega), ih (t + 1) _ (by omega) (step _ ?_)⟩, fun q => ⟨vp_in_nI (by omega) (by omega), ih (t + 1) _ (by omega) (step _ ?_)⟩⟩
      · rw [nI_leI (by omega) (by omega)] at q
        rw [if_neg (by omega)]
      · rw [nI_leI (by omega) (by omega)] at q
        rw [if_pos (by omega)]
  exact loop nW 0 (fun _ => 0) (by omega) (fun i hi => by omega)
theorem sr_init {a1 a2 : Int32} {nW nE : Nat} {post : Int32 → Int32 → (Nat → Int32) → Prop} (hw : sel_ a1 64 65536 nW) (he : sel_ a2 16 8192 nE) (h : ∀ z, (∀ i, i < nW → z i = if i + 1 < nW then nI (i + 1) else -1) → post (nI nW) (nI nE) z) : wqR_init a1 a2 post := by
  have bw := sel_le hw (by omega)
  have be := sel_le he (by omega)
  have k16 : (16 : Int32).toInt = 16 := rfl
  have k64 : (64 : Int32).toInt = 64 := rfl
  have k8192 : (8192 : Int32).toInt = 8192 := rfl
  have k65536 : (65536 : Int32).toInt = 65536 := rfl
  have h34 : ∀ y1, wqR_init_34 y1 a2 (nI nW) 0 post := by
    intro y1
    have fin := sr_init_58 (y1 := y1) (y2 := a2) bw.2 h
    unfold wqR_init_34
    rcases he with ⟨q2, v2, v3, v4⟩ | ⟨q2, v2⟩
    · refine ⟨fun z => ?_, fun _ => ⟨fun z => ?_, fun _ => ?_⟩⟩
      · rw [Int32.lt_iff_toInt_lt] at z; omega
      · rw [Int32.lt_iff_toInt_lt] at z; omega
      · rw [← v2] at fin
        exact fin
    · rw [v2] at fin
      refine ⟨fun _ => fin, fun z => ⟨fun _ => fin, fun z2 => ?_⟩⟩
      rw [Int32.lt_iff_toInt_lt] at z z2
      exact absurd ⟨by omega, by omega⟩ q2
  unfold wqR_init
  rcases hw with ⟨q1, w2, w3, w4⟩ | ⟨q1, w2⟩
  · refine ⟨fun z => ?_, fun _ => ⟨fun z => ?_, fun _ => ?_⟩⟩
    · rw [Int32.lt_iff_toInt_lt] at z; omega
    · rw [Int32.lt_iff_toInt_lt] at z; omega
    · have := h34 a1
      rw [← w2] at this
      exact this
  · have := h34 a1
    rw [w2] at this
    refine ⟨fun _ => this, fun z => ⟨fun _ => this, fun z2 => ?_⟩⟩
    rw [Int32.lt_iff_toInt_lt] at z z2
    exact absurd ⟨by omega, by omega⟩ q1
/-- the store at the beginning -/
def G0_ : G_ := (fun _ => .inl 0, fun _ => (.inl 0, 0, [], []), 0)
theorem c_start {nW nE : Nat} {zS : Nat → Int32} (hz : ∀ i, i < nE → zS i = nI i) : c_rep nW nE 0 G0_ (fun _ => 0) (fun _ => 0) 0 (fun _ => 0) zS (nI nE) 0 (fun _ => 0) 0 1 := by
  refine ⟨[], List.range nE, 0, rfl, by rw [List.length_range], rfl, rfl, Nat.le_refl _, Nat.le_refl _, ⟨⟨?_, ?_, ?_, ?_, ?_, ?_, ?_, ?_, ?_⟩, Or.inr ⟨rfl, ?_⟩, ?_⟩⟩
  · refine ⟨zo_is_nil, by simp [zo_row], fun pre o post he => by simp at he, fun o ho => by simp at ho, by simp, fun o ho => by simp at ho⟩
  · exact fun r _ => Or.inl (Or.inl rfl)
  · intro k x hk
    rw [List.getElem?_map] at hk
    cases hq : (List.range nE)[k]? with
    | none => rw [hq] at hk; cases hk
    | some y =>
      rw [hq] at hk
      have hkl := (List.getElem?_eq_some_iff.mp hq).1
      rw [List.length_range] at hkl
      rw [List.getElem?_range hkl] at hq
      have : nI y = x := Option.some.inj hk
      rw [← this, ← Option.some.inj hq, Nat.zero_add]
      exact hz k hkl
  · rw [List.map_nil, List.append_nil]
    exact List.nodup_range
  · exact fun x hx => List.mem_range.mp hx
  · simp
  · simp
  · exact fun o ho => by simp at ho
  · exact fun e _ => ⟨0, Nat.le_refl _, rfl⟩
  · exact fun o ho => by simp at ho
  · exact ⟨fun r _ => zv_n (Or.inl rfl), fun o ho => by simp at ho⟩
theorem zc_start {nW : Nat} {zN : Nat → Int32} (hz : ∀ i, i < nW → zN i = if i + 1 < nW then nI (i + 1) else -1) : ∀ (n a : Nat), a + n = nW → zc_ch zN (if n = 0 then -1 else nI a) (List.range' a n) := by
  intro n
  induction n with
  | zero =>
    intro a _
    rw [if_pos rfl]
    rfl
  | succ n ih =>
    intro a ha
    rw [if_neg (by omega), List.range'_succ]
    refine ⟨rfl, ?_⟩
    rw [hz a (by omega)]
    have := ih (a + 1) (by omega)
    by_cases q : n = 0
    · rw [if_pos q] at this
      rw [if_neg (by omega)]
      exact this
    · rw [if_neg q] at this
      rw [if_pos (by omega)]
      exact this
theorem r_start {nW nE : Nat} {zN : Nat → Int32} (hW : 64 ≤ nW) (hz : ∀ i, i < nW → zN i = if i + 1 < nW then nI (i + 1) else -1) : r_rep nW nE G0_ (nI nW) (nI nE) (fun _ => 0) (fun _ => 0) (fun _ => 0) (fun _ => 0) (fun _ => 0) (fun _ => 0) 0 0 (fun _ => 0) zN 0 := by
  refine ⟨rfl, rfl, rfl, [], fun _ => [], List.range nW, 0, rfl, ⟨by simp, fun o ho => by simp at ho, fun o ho => by simp at ho, fun r _ => Or.inl (Or.inl rfl), by simp, fun o ho => by simp at ho⟩, ⟨fun r _ => zv_n (Or.inl rfl), fun o ho => by simp at ho⟩, ⟨fun o ho => by simp at ho, fun p _ _ => rfl, ?_, ?_⟩, by omega, fun p hp => by omega⟩
  · have := zc_start hz nW 0 (by omega)
    rw [if_neg (by omega), ← List.range_eq_range'] at this
    exact this
  · show (List.range nW ++ []).Perm (List.range nW)
    rw [List.append_nil]
theorem wq_all {L : Nat} (hL : L ≤ 2562) (xs : Nat → Int32) : wqL_law L xs := by
  unfold wqL_law
  obtain ⟨nW, hw⟩ := sel_ex (if L ≤ 0 then 0 else xs 0) (lo := 64) (up := 65536) (by omega)
  obtain ⟨nE, he⟩ := sel_ex (if L ≤ 1 then 0 else xs 1) (lo := 16) (up := 8192) (by omega)
  have bw := sel_le hw (by omega)
  have be := sel_le he (by omega)
  refine sp_cell (k := 0) hL (by omega) (sp_cell (k := 1) hL (by omega) (sp_T_init hw he ?_))
  intro zS hS
  refine sp_cell (k := 0) hL (by omega) (sp_cell (k := 1) hL (by omega) (sr_init hw he ?_))
  intro zN hN
  have hc := c_start (nW := nW) hS
  have hr := r_start (nE := nE) bw.1 hN
  have := sim_loop (L := L) (xs := xs) be.2 bw.2 hL 512 0 G0_ _ _ _ _ _ _ _ (fun _ => 0) 0 _ _ _ 0 _ _ _ _ _ _ _ _ _ _ _ _ _ (fun _ => 0) (fun _ => 0) 0 0 (fun _ => 0) (by omega) hc hr
  exact this

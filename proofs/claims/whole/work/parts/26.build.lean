/-! making an object -/
theorem sp_fits {nW nE u k w : Nat} {post : Int32 → Prop} (hu : u ≤ nW) (hW : nW ≤ 65536) (hE : nE ≤ 8192) (hk : k ≤ nE) (hw : w ≤ 65536) (h : post (if 0 < k ∧ u + w ≤ nW then 1 else 0)) : wqM_fits nW nE (nI u) (nI k) (nI w) post := by
  unfold wqM_fits
  rw [pk_sub hu]
  refine ⟨fun c => ?_, fun c => ⟨fun c2 => absurd c2 (nI_nlt hk (by omega)), fun _ => ⟨fun c2 => absurd c2 (nI_pos (by omega)), fun _ => ⟨fun c2 => ?_, fun c2 => ?_⟩⟩⟩⟩
  · rw [← nI_0, nI_leI (by omega) (by omega)] at c
    rw [if_neg (by omega)] at h
    exact h
  · rw [nI_ltI (by omega) (by omega)] at c2
    rw [if_neg (by omega)] at h
    exact h
  · rw [nI_ltI (by omega) (by omega)] at c2
    rw [← nI_0, nI_leI (by omega) (by omega)] at c
    rw [if_pos (by omega)] at h
    exact h
theorem sp_build_124 {nW nE : Nat} {y6 y5 y1 y2 y4 us sc li rn rd st : Int32} {R P S rc ro : Nat → Int32} {post : Int32 → (Nat → Int32) → Int32 → (Nat → Int32) → (Nat → Int32) → Int32 → Int32 → (Nat → Int32) → Int32 → (Nat → Int32) → Int32 → Int32 → Prop} {kx : Int32 → (Nat → Int32) → Prop} (hW : nW ≤ 65536) :
    ∀ (k : Nat) (l : List Int32) (f : Nat → Int32), zo_is f l 0 → l.length + k ≤ nW → (∀ x f', zo_is f' (l ++ List.replicate k 0) 0 → kx x f') →
      wqM_build_124 nW nE R y1 y2 y4 y5 y6 (nI (l.length + k)) us P S sc li rc rn ro rd st post kx (k + 1) (nI l.length) f := by
  intro k
  induction k with
  | zero =>
    intro l f hf hl K
    unfold wqM_build_124
    exact ⟨fun _ => K _ _ (by simpa using hf), fun c => absurd (nI_le (Nat.le_refl _) (by omega)) c⟩
  | succ k ih =>
    intro l f hf hl K
    unfold wqM_build_124
    refine ⟨fun c => absurd c (nI_ge (by omega) (by omega)), fun _ => ?_⟩
    rw [nI_clamp (by omega), zi_1]
    refine ⟨vp_in_nI (by omega) (by omega), ?_⟩
    have := ih (l ++ [0]) (upd f l.length 0) (by simpa using zo_is_snoc (x := 0) hf) (by simp; omega) ?_
    · simp only [List.length_append, List.length_cons, List.length_nil, Nat.zero_add] at this
      rw [show l.length + (k + 1) = l.length + 1 + k by omega]
      exact this
    · intro x f' h
      refine K x f' ?_
      rw [List.append_assoc] at h
      exact h
theorem zo_Vo_mono {os : List Ob_} {o : Ob_} {v : Int32} (h : zo_Vo os v) : zo_Vo (os ++ [o]) v := by
  rcases h with h | ⟨x, hx, e⟩
  · exact Or.inl h
  · exact Or.inr ⟨x, List.mem_append_left _ hx, e⟩
/-- the new object's record -/
def zo_new (e L : Nat) (v : Int32) (h : Nat) : Ob_ := (e, L + 1, v, h, List.replicate (bW_ h) 0)
theorem zo_kids_new {e L h : Nat} {v w : Int32} (hw : w ∈ zo_kids (zo_new e L v h)) : w = v ∨ w = 0 := by
  unfold zo_kids zo_slots zo_new at hw
  rcases List.mem_cons.mp hw with q | q
  · exact Or.inl q
  · split at q
    · simp at q
    · exact Or.inr (List.eq_of_mem_replicate q)
theorem bW_le {h : Nat} (hh : h ≤ 32001) : bW_ h ≤ 16000 := by
  unfold bW_
  split <;> omega
theorem sp_build_22 {nW nE L D h : Nat} {os : List Ob_} {sl : List Nat} {R f P S rc ro : Nat → Int32} {rn st v : Int32} {post : Int32 → (Nat → Int32) → Int32 → (Nat → Int32) → (Nat → Int32) → Int32 → Int32 → (Nat → Int32) → Int32 → (Nat → Int32) → Int32 → Int32 → Prop} (hE : nE ≤ 8192) (hW : nW ≤ 65536) (hL : L + 1 < 2 ^ 31)
    (hI : zo_inv nW nE os sl L D R f P S ro) (hv : zo_Vo os v) (hh : h ≤ 32001)
    (hno : ¬ (0 < sl.length ∧ (zo_row os).length + (4 + bW_ h) ≤ nW) → post 0 f (nI (zo_row os).length) P S (nI sl.length) (nI L) rc rn ro (nI D) st)
    (hok : ∀ (e : Nat) (sl' : List Nat) (f' P' : Nat → Int32), (zo_row os).length + (4 + bW_ h) ≤ nW → sl = sl' ++ [e] → e < nE → zo_inv nW nE (os ++ [zo_new e L v h]) sl' (L + 1) D R f' P' S ro →
      post (ov_ e) f' (nI (zo_row (os ++ [zo_new e L v h])).length) P' S (nI sl'.length) (nI (L + 1)) rc rn ro (nI D) st) :
    wqM_build_22 nW nE R v (nI h) (nI (4 + bW_ h)) f (nI (zo_row os).length) P S (nI sl.length) (nI L) rc rn ro (nI D) st post := by
  obtain ⟨i1, i2, i3, i4, i5, i6, i7, i8, i9⟩ := hI
  obtain ⟨r1, r2, r3, r4, r5, r6⟩ := id i1
  have hb := bW_le hh
  unfold wqM_build_22
  refine sp_fits r2 hW hE (by omega) (by omega) ?_
  by_cases c : 0 < sl.length ∧ (zo_row os).length + (4 + bW_ h) ≤ nW
  · rw [if_pos c]
    refine ⟨fun q => absurd q (by decide), fun _ => ?_⟩
    obtain ⟨c1, c2⟩ := c
    obtain ⟨sl', e, rfl⟩ : ∃ sl' e, sl = sl' ++ [e] := by
      refine ⟨sl.dropLast, sl.getLast (by intro q; rw [q] at c1; simp at c1), (List.dropLast_concat_getLast _).symm⟩
    have hlen : (sl' ++ [e]).length = sl'.length + 1 := by simp
    have he : e < nE := i5 e (by simp)
    have hSe : S sl'.length = nI e := by
      have := i3 sl'.length (nI e) (by simp)
      simpa using this
    have hne : ∀ x ∈ os, oE x ≠ e := by
      intro x hx q
      rw [List.nodup_append] at i4
      exact i4.2.2 e (by simp) (oE x) (List.mem_map_of_mem hx) q.symm
    rw [hlen, nI_pred, nI_clamp (n := sl'.length) (by omega), hSe]
    refine ⟨vp_in_nI (by omega) (by omega), sp_seat hE hW he (by omega) ?_⟩
    rw [zi_1, zi_1, zi_2, zi_3, zi_4, nI_add, nI_clamp (n := (zo_row os).length + 1) (by omega), nI_clamp (n := (zo_row os).length + 2) (by omega), nI_clamp (n := (zo_row os).length + 3) (by omega)]
    refine ⟨vp_in_nI (by omega) (by omega), vp_in_nI (by omega) (by omega), vp_in_nI (by omega) (by omega), ?_⟩
    have hf4 : zo_is (upd (upd (upd (upd f (zo_row os).length (nI e)) ((zo_row os).length + 1) (nI (L + 1))) ((zo_row os).length + 2) v) ((zo_row os).length + 3) (nI h)) (zo_row os ++ [nI e] ++ [nI (L + 1)] ++ [v] ++ [nI h]) 0 := by
      have k1 := zo_is_snoc (x := nI e) r1
      have k2 := zo_is_snoc (x := nI (L + 1)) k1
      have k3 := zo_is_snoc (x := v) k2
      have k4 := zo_is_snoc (x := nI h) k3
      simpa using k4
    refine ⟨bW_ h + 1, ?_⟩
    have hl4 : (zo_row os ++ [nI e] ++ [nI (L + 1)] ++ [v] ++ [nI h]).length = (zo_row os).length + 4 := by simp
    have hk := sp_build_124 (nE := nE) (y6 := nI (zo_row os).length) (y5 := nI e) (y1 := v) (y2 := nI h) (y4 := nI (4 + bW_ h)) (us := nI (zo_row os).length) (sc := nI sl'.length) (li := nI (L + 1)) (rn := rn) (rd := nI D) (st := st) (R := R) (P := upd P e (nI (zo_row os).length)) (S := S) (rc := rc) (ro := ro) (post := post)
      (kx := fun z7 fe => wqV_ofEntry (nI e) (fun r165 => post r165 fe (nI ((zo_row os).length + (4 + bW_ h))) (upd P e (nI (zo_row os).length)) S (nI sl'.length) (nI (L + 1)) rc rn ro (nI D) st)) hW (bW_ h) _ _ hf4 (by rw [hl4]; omega) ?_
    · rw [hl4, show (zo_row os).length + 4 + bW_ h = (zo_row os).length + (4 + bW_ h) by omega] at hk
      exact hk
    · intro x f' hf'
      refine sp_ofEntry ?_
      have hrow : zo_row (os ++ [zo_new e L v h]) = zo_row os ++ [nI e] ++ [nI (L + 1)] ++ [v] ++ [nI h] ++ List.replicate (bW_ h) 0 := by
        rw [zo_row_snoc]
        simp [zo_flat, zo_new]
      have hrl : (zo_row (os ++ [zo_new e L v h])).length = (zo_row os).length + (4 + bW_ h) := by
        rw [hrow]
        simp
        omega
      have := hok e sl' f' (upd P e (nI (zo_row os).length)) c2 rfl he ?_
      · rw [hrl] at this
        exact this
      · rw [List.nodup_append] at i4
        obtain ⟨n1, n2, n3⟩ := i4
        rw [List.nodup_append] at n1
        refine ⟨⟨by rw [hrow]; exact hf', by omega, zo_Pl_snoc (o := zo_new e L v h) r3 hne, ?_, ?_, ?_⟩, fun r hr => zo_Vo_mono (i2 r hr), ?_, ?_, fun x hx => i5 x (List.mem_append_left _ hx), ?_, ?_, ?_, i9⟩
        · intro o ho
          rcases List.mem_append.mp ho with ho | ho
          · exact r4 o ho
          · have : o = zo_new e L v h := by simpa using ho
            subst this
            exact ⟨he, by show (List.replicate (bW_ h) (0 : Int32)).length = bW_ h; simp, hh⟩
        · rw [List.map_append, List.nodup_append]
          refine ⟨r5, by simp, ?_⟩
          intro a ha b hb
          obtain ⟨x, hx, rfl⟩ := List.mem_map.mp ha
          have : b = e := by simpa [zo_new] using hb
          subst this
          exact hne x hx
        · intro o ho w hw
          rcases List.mem_append.mp ho with ho | ho
          · exact zo_Vo_mono (r6 o ho w hw)
          · have : o = zo_new e L v h := by simpa using ho
            subst this
            rcases zo_kids_new hw with q | q
            · rw [q]; exact zo_Vo_mono hv
            · rw [q]; exact Or.inl (Or.inl rfl)
        · rw [List.map_append, zo_is_app] at i3
          exact i3.1
        · rw [List.map_append, ← List.append_assoc, List.nodup_append, List.nodup_append]
          refine ⟨⟨n1.1, r5, fun a ha b hb => n3 a (List.mem_append_left _ ha) b hb⟩, by simp, ?_⟩
          intro a ha b hb
          have hbe : b = e := by simpa [zo_new] using hb
          subst hbe
          rcases List.mem_append.mp ha with ha | ha
          · exact n1.2.2 a ha b (by simp)
          · obtain ⟨x, hx, rfl⟩ := List.mem_map.mp ha
            exact hne x hx
        · simp at i6 ⊢
          omega
        · rw [List.map_append, List.pairwise_append]
          refine ⟨i7, by simp, ?_⟩
          intro a ha b hb
          obtain ⟨x, hx, rfl⟩ := List.mem_map.mp ha
          have : b = L + 1 := by simpa [zo_new] using hb
          have := (i8 x hx).2
          omega
        · intro o ho
          rcases List.mem_append.mp ho with ho | ho
          · have := i8 o ho
            omega
          · have : o = zo_new e L v h := by simpa using ho
            subst this
            show 1 ≤ L + 1 ∧ L + 1 ≤ L + 1
            omega
  · rw [if_neg c]
    exact ⟨fun _ => hno c, fun q => absurd rfl q⟩

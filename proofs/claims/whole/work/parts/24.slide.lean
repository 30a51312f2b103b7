/-! moving what is reached together -/
def zo_in (rl : List Nat) (o : Ob_) : Bool := decide (oE o ∈ rl)
theorem sp_bodyWordsAt {nW nE e p : Nat} {f P : Nat → Int32} {o : Ob_} {post : Int32 → Prop} (hf : zo_is f (zo_flat o) p) (hp4 : p + 4 ≤ nW) (hW : nW ≤ 65536) (hH : oH o ≤ 32001) (hp : post (nI (bW_ (oH o)))) : wqM_bodyWordsAt nW nE f (nI p) post := by
  have hsh : f (p + 3) = nI (oH o) := hf 3 _ rfl
  unfold wqM_bodyWordsAt
  rw [zi_3]
  refine sp_word hW (by omega) ?_
  rw [hsh]
  exact sp_bodyWords (by omega) hp
theorem sp_seat {nW nE e p : Nat} {f P : Nat → Int32} {post : (Nat → Int32) → (Nat → Int32) → Prop} (hE : nE ≤ 8192) (hW : nW ≤ 65536) (he : e < nE) (hp : p < nW) (h : post (upd f p (nI e)) (upd P e (nI p))) : wqM_seat nW nE f P (nI e) (nI p) post := by
  unfold wqM_seat
  rw [zi_0, nI_clamp (by omega)]
  exact ⟨fun c => absurd c (nI_pos (by omega)), fun _ => ⟨fun c => absurd c (nI_ge he (by omega)), fun _ => ⟨vp_in_nI he (by omega), sp_setWord hW hp h⟩⟩⟩
theorem sp_isReached {nW nE e : Nat} {ro : Nat → Int32} {rd : Int32} {post : Int32 → Prop} (hE : nE ≤ 8192) (he : e < nE) (h1 : ro e = rd → post 1) (h0 : ¬ ro e = rd → post 0) : wqM_isReached nW nE ro rd (nI e) post := by
  unfold wqM_isReached
  rw [nI_clamp (by omega)]
  exact ⟨fun c => absurd c (nI_pos (by omega)), fun _ => ⟨fun c => absurd c (nI_ge he (by omega)), fun _ => ⟨vp_in_nI he (by omega), h1, h0⟩⟩⟩
theorem sp_giveBackEntry {nW nE k : Nat} {S : Nat → Int32} {x : Int32} {post : (Nat → Int32) → Int32 → Prop} (hE : nE ≤ 8192) (hk : k < nE) (h : post (upd S k x) (nI (k + 1))) : wqM_giveBackEntry nW nE S (nI k) x post := by
  unfold wqM_giveBackEntry
  rw [nI_clamp (by omega), zi_1]
  exact ⟨fun c => absurd c (nI_pos (by omega)), fun _ => ⟨fun c => absurd c (nI_ge hk (by omega)), fun _ => ⟨vp_in_nI hk (by omega), h⟩⟩⟩
theorem zo_is_same {f : Nat → Int32} {l : List Int32} {p j : Nat} {x : Int32} (h : zo_is f l p) (hx : f j = x) : zo_is (upd f j x) l p := by
  intro k y hk
  by_cases c : p + k = j
  · rw [c, pk_us, ← hx, ← c]
    exact h k y hk
  · rw [pk_un c]
    exact h k y hk
theorem zo_cpy_is {f : Nat → Int32} {l : List Int32} {p u n : Nat} (h : zo_is f l p) (hn : l.length = n) : zo_is (va_cpy f f p u n) l u := by
  intro k x hk
  have hlt := (List.getElem?_eq_some_iff.mp hk).1
  rw [pk_cpy_in (by omega) (by omega), show p + (u + k - u) = p + k by omega]
  exact h k x hk
theorem zo_cpy_lo {f : Nat → Int32} {l : List Int32} {p u n q : Nat} (h : zo_is f l q) (hq : q + l.length ≤ u) : zo_is (va_cpy f f p u n) l q := by
  intro k x hk
  have hlt := (List.getElem?_eq_some_iff.mp hk).1
  rw [pk_cpy_out (Or.inl (by omega))]
  exact h k x hk
theorem zo_cpy_hi {f : Nat → Int32} {l : List Int32} {p u n q : Nat} (h : zo_is f l q) (hq : u + n ≤ q) : zo_is (va_cpy f f p u n) l q := by
  intro k x hk
  rw [pk_cpy_out (Or.inr (by omega))]
  exact h k x hk
theorem zo_row_snoc (a : List Ob_) (o : Ob_) : zo_row (a ++ [o]) = zo_row a ++ zo_flat o := by
  rw [zo_row_app]
  simp [zo_row]
theorem zo_row_filter (g : Ob_ → Bool) : ∀ os : List Ob_, (zo_row (os.filter g)).length ≤ (zo_row os).length := by
  intro os
  induction os with
  | nil => simp
  | cons o os ih =>
    rw [List.filter_cons]
    split
    · simp only [zo_row, List.length_append]
      omega
    · simp only [zo_row, List.length_append]
      omega
theorem zo_len1 (l : List Nat) (x : Nat) : (l ++ [x]).length = l.length + 1 := by simp
/-- the table leads to each of os -/
def zo_Pl (os : List Ob_) (P : Nat → Int32) : Prop := ∀ pre o post, os = pre ++ o :: post → P (oE o) = nI (zo_row pre).length
theorem zo_Pl_snoc {os : List Ob_} {P : Nat → Int32} {o : Ob_} (h : zo_Pl os P) (hn : ∀ x ∈ os, oE x ≠ oE o) : zo_Pl (os ++ [o]) (upd P (oE o) (nI (zo_row os).length)) := by
  intro pre x post he
  rcases List.append_eq_append_iff.mp he with ⟨a, h1, h2⟩ | ⟨b, h1, h2⟩
  · -- pre = os ++ a, [o] = a ++ x :: post
    cases a with
    | nil =>
      simp at h1 h2
      obtain ⟨rfl, rfl⟩ := h2
      subst h1
      rw [pk_us]
    | cons c a =>
      simp at h2
  · -- os = pre ++ b, x :: post = b ++ [o]
    cases b with
    | nil =>
      simp at h1 h2
      obtain ⟨rfl, rfl⟩ := h2
      subst h1
      rw [pk_us]
    | cons c b =>
      simp at h2
      obtain ⟨rfl, rfl⟩ := h2
      rw [pk_un (hn x (by rw [h1]; simp))]
      exact h pre x b h1
theorem sp_slide_12 {nW nE D : Nat} {os : List Ob_} {rl sl : List Nat} {ro : Nat → Int32} {post : (Nat → Int32) → Int32 → (Nat → Int32) → (Nat → Int32) → Int32 → Prop} {kx : Int32 → (Nat → Int32) → Int32 → (Nat → Int32) → (Nat → Int32) → Int32 → Prop} (hE : nE ≤ 8192) (hW : nW ≤ 65536) (hD : D < 2 ^ 31)
    (hlen : (zo_row os).length ≤ nW) (hok : ∀ o ∈ os, oE o < nE ∧ (oB o).length = bW_ (oH o) ∧ oH o ≤ 32001) (hnd : (os.map oE).Nodup) (hro : ∀ e, e < nE → (ro e = nI D ↔ e ∈ rl)) (hsl : sl.length + os.length = nE)
    (K : ∀ x f P S, zo_is f (zo_row (os.filter (zo_in rl))) 0 → zo_Pl (os.filter (zo_in rl)) P → zo_is S ((sl ++ (os.filter (fun o => !zo_in rl o)).map oE).map nI) 0 →
      kx x f (nI (zo_row (os.filter (zo_in rl))).length) P S (nI (sl ++ (os.filter (fun o => !zo_in rl o)).map oE).length)) :
    ∀ (rest pre : List Ob_) (f P S : Nat → Int32), os = pre ++ rest → zo_is f (zo_row (pre.filter (zo_in rl))) 0 → zo_is f (zo_row rest) (zo_row pre).length → zo_Pl (pre.filter (zo_in rl)) P → zo_is S ((sl ++ (pre.filter (fun o => !zo_in rl o)).map oE).map nI) 0 →
      wqM_slide_12 nW nE ro (nI D) (nI (zo_row os).length) post kx (rest.length + 1) (nI (zo_row pre).length) f (nI (zo_row (pre.filter (zo_in rl))).length) P S (nI (sl ++ (pre.filter (fun o => !zo_in rl o)).map oE).length) := by
  intro rest
  induction rest with
  | nil =>
    intro pre f P S he h1 h2 h3 h4
    simp at he
    subst he
    unfold wqM_slide_12
    exact ⟨fun _ => K _ _ _ _ h1 h3 h4, fun c => absurd (nI_le (Nat.le_refl _) (by omega)) c⟩
  | cons o rest ih =>
    intro pre f P S he h1 h2 h3 h4
    have hmem : o ∈ os := by rw [he]; simp
    obtain ⟨ho1, ho2, ho3⟩ := hok o hmem
    have hrow : (zo_row os).length = (zo_row pre).length + (4 + (oB o).length) + (zo_row rest).length := by
      rw [he, zo_row_app, List.length_append, show zo_row (o :: rest) = zo_flat o ++ zo_row rest from rfl, List.length_append, zo_flat_len]
      omega
    rw [show zo_row (o :: rest) = zo_flat o ++ zo_row rest from rfl, zo_is_app, zo_flat_len] at h2
    obtain ⟨h2a, h2b⟩ := h2
    have hen : f (zo_row pre).length = nI (oE o) := h2a 0 _ rfl
    have hkl := zo_row_filter (zo_in rl) pre
    have hpre : zo_row (pre ++ [o]) = zo_row pre ++ zo_flat o := zo_row_snoc pre o
    have hprel : (zo_row (pre ++ [o])).length = (zo_row pre).length + (4 + (oB o).length) := by rw [hpre, List.length_append, zo_flat_len]
    unfold wqM_slide_12
    refine ⟨fun c => absurd c (nI_ge (by omega) (by omega)), fun _ => ?_⟩
    refine sp_bodyWordsAt (e := 0) (P := P) h2a (by omega) hW ho3 ?_
    rw [zi_0, ← ho2, zi_4', nI_add]
    refine sp_word hW (by omega) ?_
    rw [hen]
    refine sp_isReached hE ho1 (fun c => ⟨fun q => absurd q (by decide), fun _ => ?_⟩) (fun c => ⟨fun _ => ?_, fun q => absurd rfl q⟩)
    · -- reached: it is moved
      have hin : zo_in rl o = true := by unfold zo_in; exact decide_eq_true ((hro _ ho1).mp c)
      have hfil : (pre ++ [o]).filter (zo_in rl) = pre.filter (zo_in rl) ++ [o] := by rw [List.filter_append]; simp [hin]
      have hfil2 : (pre ++ [o]).filter (fun o => !zo_in rl o) = pre.filter (fun o => !zo_in rl o) := by rw [List.filter_append]; simp [hin]
      refine sp_copyWords hW (by omega) (by omega) (sp_seat hE hW ho1 (by omega) ?_)
      have hmv : zo_is (va_cpy f f (zo_row pre).length (zo_row (pre.filter (zo_in rl))).length (4 + (oB o).length)) (zo_flat o) (zo_row (pre.filter (zo_in rl))).length := zo_cpy_is h2a (zo_flat_len o)
      have hmv0 := hmv 0 (nI (oE o)) rfl
      rw [Nat.add_zero] at hmv0
      have := ih (pre ++ [o]) (upd (va_cpy f f (zo_row pre).length (zo_row (pre.filter (zo_in rl))).length (4 + (oB o).length)) (zo_row (pre.filter (zo_in rl))).length (nI (oE o))) (upd P (oE o) (nI (zo_row (pre.filter (zo_in rl))).length)) S (by rw [he]; simp) ?_ ?_ ?_ ?_
      · rw [hfil, hfil2, hprel, zo_row_snoc, List.length_append, zo_flat_len] at this
        rw [nI_add]
        exact this
      · rw [hfil, zo_row_snoc, zo_is_app]
        exact ⟨zo_is_same (zo_cpy_lo h1 (by omega)) hmv0, zo_is_same (by simpa using hmv) hmv0⟩
      · rw [hprel]
        exact zo_is_same (zo_cpy_hi h2b (by omega)) hmv0
      · rw [hfil]
        refine zo_Pl_snoc h3 ?_
        intro x hx e
        have hxp : x ∈ pre := (List.mem_filter.mp hx).1
        rw [he, List.map_append, List.nodup_append] at hnd
        exact hnd.2.2 (oE x) (List.mem_map_of_mem hxp) (oE o) (by simp) e
      · rw [hfil2]
        exact h4
    · -- not reached: its entry is spare
      have hin : zo_in rl o = false := by unfold zo_in; exact decide_eq_false (fun q => c ((hro _ ho1).mpr q))
      have hfil : (pre ++ [o]).filter (zo_in rl) = pre.filter (zo_in rl) := by rw [List.filter_append]; simp [hin]
      have hfil2 : (pre ++ [o]).filter (fun o => !zo_in rl o) = pre.filter (fun o => !zo_in rl o) ++ [o] := by rw [List.filter_append]; simp [hin]
      have hcat : sl ++ ((pre ++ [o]).filter (fun o => !zo_in rl o)).map oE = (sl ++ (pre.filter (fun o => !zo_in rl o)).map oE) ++ [oE o] := by
        rw [hfil2, List.map_append, ← List.append_assoc]
        rfl
      have hcnt : (sl ++ (pre.filter (fun o => !zo_in rl o)).map oE).length < nE := by
        have h9 := List.length_filter_le (fun o => !zo_in rl o) pre
        have h8 : os.length = pre.length + (rest.length + 1) := by rw [he]; simp
        simp
        omega
      refine sp_giveBackEntry hE hcnt ?_
      have := ih (pre ++ [o]) f P (upd S (sl ++ (pre.filter (fun o => !zo_in rl o)).map oE).length (nI (oE o))) (by rw [he]; simp) (by rw [hfil]; exact h1) (by rw [hprel]; exact h2b) (by rw [hfil]; exact h3) ?_
      · rw [hfil, hcat, hprel, zo_len1] at this
        exact this
      · rw [hcat, List.map_append]
        have h9 := zo_is_snoc (x := nI (oE o)) h4
        rw [Nat.zero_add, List.length_map] at h9
        exact h9

/-! marking: what is reached from values, as a list of entries -/
/-- the entry that a value names, if it is an object -/
def zo_dec (v : Int32) : Option Nat := if v = 0 ∨ ¬ v &&& (1 : Int32) = 0 then none else some ((v >>> ((1 : Int32) &&& 31)) - 1).toNatClampNeg
theorem zo_dec_ov {e : Nat} (he : e < 8192) : zo_dec (ov_ e) = some e := by
  unfold zo_dec
  rw [if_neg, ov_shr he, nI_clamp (by omega)]
  rintro (h | h)
  · exact ov_ne0 he h
  · exact h (ov_and he)
theorem zo_dec_n {v : Int32} (hv : v = 0 ∨ ¬ v &&& (1 : Int32) = 0) : zo_dec v = none := by
  unfold zo_dec
  rw [if_pos hv]
theorem zo_dec_nv (n : Int32) : zo_dec (nv_ n) = none := zo_dec_n (Or.inr (nv_and0 n))
theorem zo_dec_0 : zo_dec 0 = none := zo_dec_n (Or.inl rfl)
/-- a value is no object, or one of an entry below n -/
def zo_V (n : Nat) (v : Int32) : Prop := (v = 0 ∨ ¬ v &&& (1 : Int32) = 0) ∨ ∃ e, e < n ∧ v = ov_ e
def zo_add (rl : List Nat) (e : Nat) : List Nat := if e ∈ rl then rl else rl ++ [e]
def zo_step (rl : List Nat) (v : Int32) : List Nat := match zo_dec v with
  | none => rl
  | some e => zo_add rl e
def zo_Mv (nE D : Nat) (rl : List Nat) (rc : Nat → Int32) (rn : Int32) (ro : Nat → Int32) : Prop :=
  rn = nI rl.length ∧ zo_is rc (rl.map ov_) 0 ∧ rl.Nodup ∧ (∀ x ∈ rl, x < nE) ∧ (∀ e, e < nE → (ro e = nI D ↔ e ∈ rl)) ∧ (∀ e, e < nE → ∃ k, k ≤ D ∧ ro e = nI k)
theorem zo_is_nil {f : Nat → Int32} {p : Nat} : zo_is f [] p := fun k x h => by simp at h
theorem zo_is_snoc {f : Nat → Int32} {l : List Int32} {p : Nat} {x : Int32} (h : zo_is f l p) : zo_is (upd f (p + l.length) x) (l ++ [x]) p := by
  intro k y hk
  by_cases c : k < l.length
  · rw [List.getElem?_append_left c] at hk
    rw [pk_un (by omega)]
    exact h k y hk
  · rw [List.getElem?_append_right (by omega)] at hk
    have hk0 : k - l.length = 0 := by
      have := (List.getElem?_eq_some_iff.mp hk).1
      simp at this
      omega
    rw [hk0] at hk
    simp at hk
    rw [show p + k = p + l.length by omega, pk_us]
    exact hk
theorem zo_is_upd {f : Nat → Int32} {l : List Int32} {p j : Nat} {x : Int32} (h : zo_is f l p) (hj : j < p ∨ p + l.length ≤ j) : zo_is (upd f j x) l p := by
  intro k y hk
  have := (List.getElem?_eq_some_iff.mp hk).1
  rw [pk_un (by omega)]
  exact h k y hk
theorem sp_reach_n {nW nE : Nat} {rc ro : Nat → Int32} {rn rd v : Int32} {post : (Nat → Int32) → Int32 → (Nat → Int32) → Prop} (hv : v = 0 ∨ ¬ v &&& (1 : Int32) = 0) (h : post rc rn ro) : wqM_reach nW nE rc rn ro rd v post := by
  unfold wqM_reach
  exact sp_isObject_n hv ⟨fun _ => h, fun q => absurd rfl q⟩
theorem sp_reach_o {nW nE D e : Nat} {rl : List Nat} {rc ro : Nat → Int32} {rn : Int32} {post : (Nat → Int32) → Int32 → (Nat → Int32) → Prop} (hE : nE ≤ 8192) (hD : D < 2 ^ 31) (hM : zo_Mv nE D rl rc rn ro) (he : e < nE)
    (h : ∀ rc' rn' ro', zo_Mv nE D (zo_add rl e) rc' rn' ro' → post rc' rn' ro') : wqM_reach nW nE rc rn ro (nI D) (ov_ e) post := by
  unfold wqM_reach
  refine sp_isObject_o (by omega) ⟨fun q => absurd q (by decide), fun _ => sp_toEntry (by omega) ?_⟩
  obtain ⟨m1, m2, m3, m4, m5, m6⟩ := id hM
  rw [nI_clamp (by omega)]
  refine ⟨fun c => absurd c (nI_pos (by omega)), fun _ => ⟨fun c => absurd c (nI_ge he (by omega)), fun _ => ⟨vp_in_nI he (by omega), fun c => ?_, fun c => ?_⟩⟩⟩
  · have hin := (m5 e he).mp c
    have := h rc rn ro
    unfold zo_add at this
    rw [if_pos hin] at this
    exact this hM
  · have hout : e ∉ rl := fun q => c ((m5 e he).mpr q)
    have hlen : (rl ++ [e]).length ≤ nE := by
      refine zo_pigeon nE _ ?_ ?_
      · rw [List.nodup_append]
        refine ⟨m3, by simp, ?_⟩
        intro a ha b hb
        simp at hb
        subst hb
        exact fun q => hout (q ▸ ha)
      · intro x hx
        rcases List.mem_append.mp hx with hx | hx
        · exact m4 x hx
        · simp at hx; omega
    have hl : rl.length < nE := by simp at hlen; omega
    refine ⟨fun c2 => absurd (by rw [m1] at c2; exact c2) (nI_ge hl (by omega)), fun _ => ⟨vp_in_nI he (by omega), by rw [m1]; exact vp_in_nI hl (by omega), ?_⟩⟩
    refine h _ _ _ ?_
    unfold zo_add
    rw [if_neg hout, m1, nI_clamp (by omega), zi_1]
    refine ⟨by simp, ?_, ?_, ?_, ?_, ?_⟩
    · have := zo_is_snoc (x := ov_ e) m2
      simpa using this
    · rw [List.nodup_append]
      refine ⟨m3, by simp, ?_⟩
      intro a ha b hb
      simp at hb
      subst hb
      exact fun q => hout (q ▸ ha)
    · intro x hx
      rcases List.mem_append.mp hx with hx | hx
      · exact m4 x hx
      · simp at hx; omega
    · intro x hx
      by_cases hxe : x = e
      · subst hxe
        rw [pk_us]
        simp
      · rw [pk_un hxe, m5 x hx]
        simp [hxe]
    · intro x hx
      by_cases hxe : x = e
      · subst hxe
        exact ⟨D, Nat.le_refl _, pk_us⟩
      · rw [pk_un hxe]
        exact m6 x hx
theorem sp_reach {nW nE D : Nat} {rl : List Nat} {rc ro : Nat → Int32} {rn v : Int32} {post : (Nat → Int32) → Int32 → (Nat → Int32) → Prop} (hE : nE ≤ 8192) (hD : D < 2 ^ 31) (hM : zo_Mv nE D rl rc rn ro) (hv : zo_V nE v)
    (h : ∀ rc' rn' ro', zo_Mv nE D (zo_step rl v) rc' rn' ro' → post rc' rn' ro') : wqM_reach nW nE rc rn ro (nI D) v post := by
  rcases hv with hv | ⟨e, he, rfl⟩
  · refine sp_reach_n hv (h _ _ _ ?_)
    unfold zo_step
    rw [zo_dec_n hv]
    exact hM
  · refine sp_reach_o hE hD hM he ?_
    intro a b c hm
    refine h a b c ?_
    unfold zo_step
    rw [zo_dec_ov (by omega)]
    exact hm
/-- the loop over the slots of one object -/
theorem sp_spread_64 {nW nE D : Nat} {y2 y1 : Int32} {f P : Nat → Int32} {post : (Nat → Int32) → Int32 → (Nat → Int32) → Prop} {kx : Int32 → (Nat → Int32) → Int32 → (Nat → Int32) → Prop} (hE : nE ≤ 8192) (hW : nW ≤ 65536) (hD : D < 2 ^ 31) :
    ∀ (l : List Int32) (p : Nat) (rl : List Nat) (rc ro : Nat → Int32) (rn : Int32), zo_is f l p → p + l.length ≤ nW → (∀ v ∈ l, zo_V nE v) → zo_Mv nE D rl rc rn ro →
      (∀ x rc' rn' ro', zo_Mv nE D (l.foldl zo_step rl) rc' rn' ro' → kx x rc' rn' ro') → wqM_spread_64 nW nE f P (nI D) y1 y2 (nI (p + l.length)) post kx (l.length + 1) (nI p) rc rn ro := by
  intro l
  induction l with
  | nil =>
    intro p rl rc ro rn _ hp _ hM h
    unfold wqM_spread_64
    exact ⟨fun _ => h _ _ _ _ hM, fun c => absurd (nI_le (Nat.le_refl _) (by simp at hp ⊢; omega)) c⟩
  | cons v l ih =>
    intro p rl rc ro rn hf hp hv hM h
    simp only [List.length_cons] at hp ⊢
    unfold wqM_spread_64
    refine ⟨fun c => absurd c (nI_ge (by omega) (by omega)), fun _ => ?_⟩
    have h0 : f p = v := hf 0 v rfl
    rw [nI_clamp (by omega), h0]
    refine ⟨vp_in_nI (by omega) (by omega), ?_⟩
    refine sp_reach hE hD hM (hv v List.mem_cons_self) ?_
    intro a b c hm
    rw [zi_1, show p + (l.length + 1) = p + 1 + l.length by omega]
    refine ih (p + 1) (zo_step rl v) a c b ?_ (by omega) (fun w hw => hv w (List.mem_cons_of_mem _ hw)) hm ?_
    · intro k x hk
      have := hf (k + 1) x (by simpa using hk)
      rw [← this]; congr 1; omega
    · exact h

/-! the whole of a settling -/
/-- the class's state holds: objects os, spare entries sl, last identity L, round D -/
def zo_inv (nW nE : Nat) (os : List Ob_) (sl : List Nat) (L D : Nat) (R f P S ro : Nat → Int32) : Prop :=
  zo_rep nW nE os f P ∧ (∀ r, r < 32 → zo_Vo os (R r)) ∧ zo_is S (sl.map nI) 0 ∧ (sl ++ os.map oE).Nodup ∧ (∀ x ∈ sl, x < nE) ∧ sl.length + os.length = nE ∧
  (os.map oI).Pairwise (· < ·) ∧ (∀ o ∈ os, 1 ≤ oI o ∧ oI o ≤ L) ∧ (∀ e, e < nE → ∃ k, k ≤ D ∧ ro e = nI k)
def zo_reach (os : List Ob_) (R : Nat → Int32) (e : Nat) : Prop := ∀ X : Nat → Prop, (∀ r, r < 32 → ∀ e', zo_dec (R r) = some e' → X e') → zo_clos os X → X e
theorem zo_len_filter (g : Ob_ → Bool) : ∀ os : List Ob_, (os.filter (fun o => !g o)).length + (os.filter g).length = os.length := by
  intro os
  induction os with
  | nil => rfl
  | cons o os ih =>
    rw [List.filter_cons, List.filter_cons]
    cases h : g o
    · simp
      omega
    · simp
      omega
/-- the registers' loop -/
theorem sp_settle_20 {nW nE D : Nat} {R f P S : Nat → Int32} {us sc st : Int32} {post : (Nat → Int32) → Int32 → (Nat → Int32) → (Nat → Int32) → Int32 → (Nat → Int32) → Int32 → (Nat → Int32) → Int32 → Int32 → Prop} {kx : Int32 → (Nat → Int32) → Int32 → (Nat → Int32) → Prop} (hE : nE ≤ 8192) (hD : D < 2 ^ 31)
    (hv : ∀ r, r < 32 → zo_V nE (R r)) (K : ∀ x rc rn ro, zo_Mv nE D (((List.range 32).map R).foldl zo_step []) rc rn ro → kx x rc rn ro) :
    ∀ (n i : Nat) (rc ro : Nat → Int32) (rn : Int32), 32 - i < n → i ≤ 32 → zo_Mv nE D (((List.range i).map R).foldl zo_step []) rc rn ro → wqM_settle_20 nW nE R (nI 32) f us P S sc (nI D) st post kx n (nI i) rc rn ro := by
  intro n
  induction n with
  | zero => intro i rc ro rn h; omega
  | succ n ih =>
    intro i rc ro rn hn hi hM
    unfold wqM_settle_20
    refine ⟨fun c => ?_, fun c => ?_⟩
    · have := (nI_leI (by omega) (by omega)).mp c
      have h32 : i = 32 := by omega
      subst h32
      exact K _ _ _ _ hM
    · rw [nI_leI (by omega) (by omega)] at c
      rw [nI_clamp (by omega)]
      refine ⟨vp_in_nI (by omega) (by omega), sp_reach hE hD hM (hv i (by omega)) ?_⟩
      intro rc1 rn1 ro1 hM1
      rw [zi_1]
      refine ih (i + 1) rc1 ro1 rn1 (by omega) (by omega) ?_
      rw [List.range_succ, List.map_append, List.foldl_append]
      exact hM1
theorem zo_roots {R : Nat → Int32} {x : Nat} : x ∈ ((List.range 32).map R).foldl zo_step [] ↔ ∃ r, r < 32 ∧ zo_dec (R r) = some x := by
  constructor
  · intro h
    rcases zo_fold_of _ _ _ h with h | ⟨v, hv, hd⟩
    · simp at h
    · obtain ⟨r, hr, rfl⟩ := List.mem_map.mp hv
      exact ⟨r, List.mem_range.mp hr, hd⟩
  · rintro ⟨r, hr, hd⟩
    exact zo_fold_mem _ _ (R r) x (List.mem_map.mpr ⟨r, List.mem_range.mpr hr, rfl⟩) hd
theorem zo_J_reach {os : List Ob_} {R : Nat → Int32} {rl : List Nat} (h : zo_J os (((List.range 32).map R).foldl zo_step []) rl rl.length) (e : Nat) : e ∈ rl ↔ zo_reach os R e := by
  obtain ⟨h1, h2, h3, h4⟩ := h
  constructor
  · intro he X hX hc
    exact h3 e he X (fun y hy => by obtain ⟨r, hr, hd⟩ := zo_roots.mp hy; exact hX r hr y hd) hc
  · intro he
    refine he (fun x => x ∈ rl) (fun r hr x hd => h1 x (zo_roots.mpr ⟨r, hr, hd⟩)) ?_
    intro o ho hin v hv x hd
    obtain ⟨k, hk⟩ := List.getElem?_of_mem hin
    exact h4 k (oE o) hk (List.getElem?_eq_some_iff.mp hk).1 o ho rfl v hv x hd
theorem sp_settle {nW nE L D : Nat} {os : List Ob_} {sl : List Nat} {R f P S rc ro : Nat → Int32} {rn st : Int32} {post : (Nat → Int32) → Int32 → (Nat → Int32) → (Nat → Int32) → Int32 → (Nat → Int32) → Int32 → (Nat → Int32) → Int32 → Int32 → Prop} (hE : nE ≤ 8192) (hW : nW ≤ 65536) (hD : D + 1 < 2 ^ 31)
    (hI : zo_inv nW nE os sl L D R f P S ro) (hst : st = 0 ∨ st = 1 ∧ ∀ o ∈ os, zo_reach os R (oE o))
    (h : ∀ (g : Ob_ → Bool) (sl' : List Nat) (D' : Nat) (f' P' S' rc' ro' : Nat → Int32) (rn' : Int32), (∀ o ∈ os, g o = true ↔ zo_reach os R (oE o)) → D' ≤ D + 1 → zo_inv nW nE (os.filter g) sl' L D' R f' P' S' ro' →
      post f' (nI (zo_row (os.filter g)).length) P' S' (nI sl'.length) rc' rn' ro' (nI D') 1) :
    wqM_settle nW nE R f (nI (zo_row os).length) P S (nI sl.length) rc rn ro (nI D) st post := by
  unfold wqM_settle
  rcases hst with rfl | ⟨rfl, hall⟩
  · refine ⟨fun _ => ?_, fun c => absurd rfl c⟩
    obtain ⟨i1, i2, i3, i4, i5, i6, i7, i8, i9⟩ := hI
    unfold wqM_startRound
    rw [zi_1]
    have hVr : ∀ r, r < 32 → zo_V nE (R r) := fun r hr => (i2 r hr).V i1
    refine ⟨33, ?_⟩
    refine sp_settle_20 hE hD hVr ?_ 33 0 rc ro 0 (by omega) (by omega) ?_
    · intro x rc1 rn1 ro1 hM1
      have hin0 : ∀ y ∈ ((List.range 32).map R).foldl zo_step [], ∃ o ∈ os, oE o = y := by
        intro y hy
        obtain ⟨r, hr, hd⟩ := zo_roots.mp hy
        rcases i2 r hr with q | ⟨o, ho, q⟩
        · rw [zo_dec_n q] at hd; cases hd
        · rw [q, zo_dec_ov (Nat.lt_of_lt_of_le (i1.2.2.2.1 o ho).1 hE)] at hd
          exact ⟨o, ho, Option.some.inj hd⟩
      refine sp_spread hE hW hD i1 hM1 hin0 ?_
      intro rl rc2 rn2 ro2 hM2 hJ
      have hR := zo_J_reach hJ
      obtain ⟨r1, r2, r3, r4, r5, r6⟩ := id i1
      unfold wqM_slide
      refine ⟨os.length + 1, ?_⟩
      have hnil : (nI (zo_row ([] : List Ob_)).length) = (0 : Int32) := rfl
      have hsl0 : sl ++ (([] : List Ob_).filter (fun o => !zo_in rl o)).map oE = sl := by simp
      have key := sp_slide_12 (rl := rl) (sl := sl) (post := fun f_49 us_49 P_49 S_49 sc_49 => post f_49 us_49 P_49 S_49 sc_49 rc2 rn2 ro2 (nI (D + 1)) 1) (kx := fun z3_12 fe_12 use_12 Pe_12 Se_12 sce_12 => post fe_12 use_12 Pe_12 Se_12 sce_12 rc2 rn2 ro2 (nI (D + 1)) 1) hE hW hD r2 r4 r5 hM2.2.2.2.2.1 i6 ?_ os [] f P S rfl zo_is_nil r1 (fun pre o post q => by simp at q) (by rw [hsl0]; exact i3)
      · rw [hsl0] at key
        exact key
      intro x2 f3 P3 S3 k1 k2 k3
      refine h (zo_in rl) _ (D + 1) f3 P3 S3 rc2 ro2 rn2 ?_ (Nat.le_refl _) ?_
      · intro o ho
        rw [← hR (oE o)]
        unfold zo_in
        exact decide_eq_true_iff
      · have hcl : ∀ v, zo_Vo os v → (∀ e, zo_dec v = some e → e ∈ rl) → zo_Vo (os.filter (zo_in rl)) v := by
          intro v hv hd
          rcases hv with q | ⟨o, ho, rfl⟩
          · exact Or.inl q
          · refine Or.inr ⟨o, List.mem_filter.mpr ⟨ho, ?_⟩, rfl⟩
            unfold zo_in
            exact decide_eq_true (hd _ (zo_dec_ov (Nat.lt_of_lt_of_le (r4 o ho).1 hE)))
        have hsub : (os.filter (zo_in rl)).Sublist os := List.filter_sublist
        have hsub2 : (os.filter (fun o => !zo_in rl o)).Sublist os := List.filter_sublist
        rw [List.nodup_append] at i4
        obtain ⟨n1, n2, n3⟩ := i4
        refine ⟨⟨k1, Nat.le_trans (zo_row_filter _ _) r2, k2, fun o ho => r4 o (hsub.mem ho), (hsub.map oE).nodup r5, ?_⟩, ?_, k3, ?_, ?_, ?_, ?_, fun o ho => i8 o (hsub.mem ho), hM2.2.2.2.2.2⟩
        · intro o ho v hv
          have hoin := hsub.mem ho
          refine hcl v (r6 o hoin v hv) (fun e hd => ?_)
          have hm : oE o ∈ rl := by
            have := (List.mem_filter.mp ho).2
            unfold zo_in at this
            exact of_decide_eq_true this
          obtain ⟨k, hk⟩ := List.getElem?_of_mem hm
          exact hJ.2.2.2 k (oE o) hk (List.getElem?_eq_some_iff.mp hk).1 o hoin rfl v hv e hd
        · intro r hr
          exact hcl _ (i2 r hr) (fun e hd => hJ.1 e (zo_roots.mpr ⟨r, hr, hd⟩))
        · rw [List.nodup_append, List.nodup_append]
          refine ⟨⟨n1, (hsub2.map oE).nodup r5, fun a ha b hb => n3 a ha b ((hsub2.map oE).mem hb)⟩, (hsub.map oE).nodup r5, ?_⟩
          intro a ha b hb
          rcases List.mem_append.mp ha with ha | ha
          · exact n3 a ha b ((hsub.map oE).mem hb)
          · obtain ⟨oa, hoa, rfl⟩ := List.mem_map.mp ha
            obtain ⟨ob, hob, rfl⟩ := List.mem_map.mp hb
            intro q
            have e1 := zo_one r5 (hsub2.mem hoa) (hsub.mem hob) q
            subst e1
            have q1 := (List.mem_filter.mp hoa).2
            have q2 := (List.mem_filter.mp hob).2
            simp [q2] at q1
        · intro y hy
          rcases List.mem_append.mp hy with hy | hy
          · exact i5 y hy
          · obtain ⟨oa, hoa, rfl⟩ := List.mem_map.mp hy
            exact (r4 oa (hsub2.mem hoa)).1
        · have := zo_len_filter (zo_in rl) os
          simp
          omega
        · exact i7.sublist (hsub.map oI)
    · refine ⟨rfl, zo_is_nil, List.nodup_nil, fun x hx => by simp at hx, fun e he => ?_, fun e he => ?_⟩
      · constructor
        · intro q
          obtain ⟨k, hk, q2⟩ := i9 e he
          rw [q, nI_eq (by omega) (by omega)] at q2
          omega
        · intro q; simp at q
      · obtain ⟨k, hk, q2⟩ := i9 e he
        exact ⟨k, by omega, q2⟩
  · refine ⟨fun c => absurd c (by decide), fun _ => ?_⟩
    have hf : os.filter (fun _ => true) = os := by simp
    have := h (fun _ => true) sl D f P S rc ro rn (fun o ho => ⟨fun _ => hall o ho, fun _ => rfl⟩) (by omega) (by rw [hf]; exact hI)
    rw [hf] at this
    exact this

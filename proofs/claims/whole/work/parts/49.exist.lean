/-! every call has an outcome, and both sides come to it -/
section EX
variable (nW nE : Nat) (G : G_) (a a1 a2 a3 a4 b : Int32) (e8 : Int64)
theorem ex_number : ∃ c G', A_number G a b c G' := by
  by_cases q : (∃ k, gReg a k) ∧ num_ b
  · obtain ⟨⟨k, hk⟩, hb⟩ := q
    exact ⟨_, _, Or.inl ⟨k, hk, hb, rfl, rfl⟩⟩
  · exact ⟨_, _, Or.inr ⟨q, rfl, rfl⟩⟩
theorem ex_move : ∃ c G', A_move G a b c G' := by
  by_cases q : (∃ k, gReg a k) ∧ ∃ j, gReg b j
  · obtain ⟨⟨k, hk⟩, j, hj⟩ := q
    exact ⟨_, _, Or.inl ⟨k, j, hk, hj, rfl, rfl⟩⟩
  · exact ⟨_, _, Or.inr ⟨q, rfl, rfl⟩⟩
theorem ex_clear : ∃ c G', A_clear G a c G' := by
  by_cases q : ∃ k, gReg a k
  · obtain ⟨k, hk⟩ := q
    exact ⟨_, _, Or.inl ⟨k, hk, rfl, rfl⟩⟩
  · exact ⟨_, _, Or.inr ⟨q, rfl, rfl⟩⟩
theorem ex_make : ∃ c o G', A_make nW nE G a1 a2 a3 a4 c o G' := by
  by_cases q : ∃ k j n, A_makeOk a1 a2 a3 a4 k j n
  · obtain ⟨k, j, n, hok⟩ := q
    by_cases f : g_fits nW nE G (4 + bW_ (gSh n a4))
    · exact ⟨_, _, _, Or.inl ⟨k, j, n, hok, f, rfl, rfl, rfl⟩⟩
    · exact ⟨_, 0, _, Or.inr (Or.inl ⟨k, j, n, hok, f, rfl, rfl⟩)⟩
  · exact ⟨_, 0, _, Or.inr (Or.inr ⟨q, rfl, rfl⟩)⟩
theorem ex_copy : ∃ c o G', A_copy nW nE G a1 a2 c o G' := by
  by_cases q : (∃ k, gReg a1 k) ∧ ∃ i, gHas G a2 i
  · obtain ⟨⟨k, hk⟩, i, hi⟩ := q
    by_cases f : g_fits nW nE G (g_w G i)
    · exact ⟨_, _, _, Or.inl ⟨k, i, hk, hi, f, rfl, rfl, rfl⟩⟩
    · exact ⟨_, 0, _, Or.inr (Or.inl ⟨k, i, hk, hi, f, rfl, rfl⟩)⟩
  · exact ⟨_, 0, _, Or.inr (Or.inr ⟨q, rfl, rfl⟩)⟩
theorem ex_it (F : Nat → Prop) : ∀ m, ∃ d, d ≤ m ∧ (∀ x, x < d → F x) ∧ (d = m ∨ ¬ F d) := by
  intro m
  induction m with
  | zero => exact ⟨0, by omega, fun x hx => by omega, Or.inl rfl⟩
  | succ m ih =>
    obtain ⟨d, h1, h2, h3⟩ := ih
    rcases h3 with h3 | h3
    · subst h3
      by_cases c : F d
      · refine ⟨d + 1, by omega, fun x hx => ?_, Or.inl rfl⟩
        rcases Nat.lt_or_ge x d with z | z
        · exact h2 x z
        · have : x = d := by omega
          rw [this]; exact c
      · exact ⟨d, by omega, h2, Or.inr c⟩
    · exact ⟨d, by omega, h2, Or.inr h3⟩
theorem ex_chain : ∃ c o G', A_chain nW nE G a1 a2 a3 a4 c o G' := by
  by_cases q : ∃ k j n m, A_chainOk a1 a2 a3 a4 k j n m
  · obtain ⟨k, j, n, m, hok⟩ := q
    obtain ⟨d, h1, h2, h3⟩ := ex_it (fun x => g_fits nW nE (g_it G k j n x) (4 + n)) m
    exact ⟨_, _, _, Or.inl ⟨k, j, n, m, d, hok, h1, h2, h3, rfl, rfl, rfl⟩⟩
  · exact ⟨_, 0, _, Or.inr ⟨q, rfl, rfl⟩⟩
theorem ex_get : ∃ c G', A_get G a1 a2 a3 c G' := by
  by_cases q : (∃ k, gReg a1 k) ∧ ∃ i, gSl G a2 i
  · obtain ⟨⟨k, hk⟩, i, hi⟩ := q
    by_cases f : ∃ j, gIx a3 ((G.2.1 i).2.1 / 2) j
    · obtain ⟨j, hj⟩ := f
      exact ⟨_, _, Or.inl ⟨k, i, j, hk, hi, hj, rfl, rfl⟩⟩
    · exact ⟨_, _, Or.inr (Or.inl ⟨k, i, hk, hi, f, rfl, rfl⟩)⟩
  · exact ⟨_, _, Or.inr (Or.inr ⟨q, rfl, rfl⟩)⟩
theorem ex_put : ∃ c G', A_put G a1 a2 a3 c G' := by
  by_cases q : (∃ k, gReg a3 k) ∧ ∃ i, gSl G a1 i
  · obtain ⟨⟨k, hk⟩, i, hi⟩ := q
    by_cases f : ∃ j, gIx a2 ((G.2.1 i).2.1 / 2) j
    · obtain ⟨j, hj⟩ := f
      exact ⟨_, _, Or.inl ⟨k, i, j, hk, hi, hj, rfl, rfl⟩⟩
    · exact ⟨_, _, Or.inr (Or.inl ⟨k, i, hk, hi, f, rfl, rfl⟩)⟩
  · exact ⟨_, _, Or.inr (Or.inr ⟨q, rfl, rfl⟩)⟩
theorem ex_gWalk : ∀ (n : Nat) (v : AV_), ∃ d w, gWalk G a n v d w := by
  intro n
  induction n with
  | zero => intro v; exact ⟨0, v, rfl, rfl⟩
  | succ n ih =>
    intro v
    by_cases q : ∃ u, gStep G a v u
    · obtain ⟨u, hu⟩ := q
      obtain ⟨d, w, hw⟩ := ih u
      exact ⟨d + 1, w, Or.inl ⟨u, d, hu, rfl, hw⟩⟩
    · exact ⟨0, v, Or.inr ⟨q, rfl, rfl⟩⟩
theorem ex_walk : ∃ c o G', A_walk G a1 a2 a3 c o G' := by
  by_cases q : (∃ k, gReg a1 k) ∧ ∃ n, n ≤ 10000 ∧ a3 = nI n
  · obtain ⟨⟨k, hk⟩, n, hn, ha⟩ := q
    obtain ⟨d, w, hw⟩ := ex_gWalk G a2 n (G.1 k)
    exact ⟨_, _, _, Or.inl ⟨k, n, d, w, hk, hn, ha, hw, rfl, rfl, rfl⟩⟩
  · exact ⟨_, 0, _, Or.inr ⟨q, rfl, rfl⟩⟩
theorem ex_classOf : ∃ c G', A_classOf G a1 a2 c G' := by
  by_cases q : (∃ k, gReg a1 k) ∧ ∃ i, gHas G a2 i
  · obtain ⟨⟨k, hk⟩, i, hi⟩ := q
    exact ⟨_, _, Or.inl ⟨k, i, hk, hi, rfl, rfl⟩⟩
  · exact ⟨_, _, Or.inr ⟨q, rfl, rfl⟩⟩
theorem ex_setClass : ∃ c G', A_setClass G a1 a2 c G' := by
  by_cases q : (∃ k, gReg a2 k) ∧ ∃ i, gHas G a1 i
  · obtain ⟨⟨k, hk⟩, i, hi⟩ := q
    exact ⟨_, _, Or.inl ⟨k, i, hk, hi, rfl, rfl⟩⟩
  · exact ⟨_, _, Or.inr ⟨q, rfl, rfl⟩⟩
theorem ex_byteAt : ∃ c o G', A_byteAt G a1 a2 c o G' := by
  by_cases q : ∃ i, gBy G a1 i
  · obtain ⟨i, hi⟩ := q
    by_cases f : ∃ j, gIx a2 ((G.2.1 i).2.1 / 2) j
    · obtain ⟨j, hj⟩ := f
      exact ⟨_, _, _, Or.inl ⟨i, j, hi, hj, rfl, rfl, rfl⟩⟩
    · exact ⟨_, 0, _, Or.inr (Or.inl ⟨i, hi, f, rfl, rfl⟩)⟩
  · exact ⟨_, 0, _, Or.inr (Or.inr ⟨q, rfl, rfl⟩)⟩
theorem ex_bytePut : ∃ c G', A_bytePut G a1 a2 e8 c G' := by
  by_cases q : ∃ i, gBy G a1 i
  · obtain ⟨i, hi⟩ := q
    by_cases f : ∃ j, gIx a2 ((G.2.1 i).2.1 / 2) j
    · obtain ⟨j, hj⟩ := f
      exact ⟨_, _, Or.inl ⟨i, j, hi, hj, rfl, rfl⟩⟩
    · exact ⟨_, _, Or.inr (Or.inl ⟨i, hi, f, rfl, rfl⟩)⟩
  · exact ⟨_, _, Or.inr (Or.inr ⟨q, rfl, rfl⟩)⟩
theorem ex_kind : ∃ c o G', A_kind G a c o G' := by
  by_cases q : ∃ k, gReg a k
  · obtain ⟨k, hk⟩ := q
    exact ⟨_, _, _, Or.inl ⟨k, hk, rfl, rfl, rfl⟩⟩
  · exact ⟨_, 0, _, Or.inr ⟨q, rfl, rfl⟩⟩
theorem ex_value : ∃ c o G', A_value G a c o G' := by
  by_cases q : ∃ k, gReg a k
  · obtain ⟨k, hk⟩ := q
    exact ⟨_, _, _, Or.inl ⟨k, hk, rfl, rfl, rfl⟩⟩
  · exact ⟨_, 0, _, Or.inr ⟨q, rfl, rfl⟩⟩
theorem ex_size : ∃ c o G', A_size G a c o G' := by
  by_cases q : ∃ k, gReg a k
  · obtain ⟨k, hk⟩ := q
    exact ⟨_, _, _, Or.inl ⟨k, hk, rfl, rfl, rfl⟩⟩
  · exact ⟨_, 0, _, Or.inr ⟨q, rfl, rfl⟩⟩
theorem ex_sum : ∃ c o G', A_sum G a c o G' := by
  by_cases q : ∃ k, gReg a k
  · obtain ⟨k, hk⟩ := q
    exact ⟨_, _, _, Or.inl ⟨k, hk, rfl, rfl, rfl⟩⟩
  · exact ⟨_, 0, _, Or.inr ⟨q, rfl, rfl⟩⟩
theorem ex_become : ∃ c G', A_become G a1 a2 c G' := by
  by_cases q : (∃ i, gHas G a1 i) ∧ ∃ j, gHas G a2 j
  · obtain ⟨⟨i, hi⟩, j, hj⟩ := q
    exact ⟨_, _, Or.inl ⟨i, j, hi, hj, rfl, rfl⟩⟩
  · exact ⟨_, _, Or.inr ⟨q, rfl, rfl⟩⟩
theorem ex_reaches : ∃ c o G', A_reaches G a1 a2 c o G' ∧ (c = 0 → o = 0 ∨ o = 1) := by
  by_cases q : (∃ i, gHas G a1 i) ∧ ∃ j, gHas G a2 j
  · obtain ⟨⟨i, hi⟩, j, hj⟩ := q
    by_cases f : g_reach (fun _ => .inr i) G.2.1 j
    · exact ⟨0, 1, G, Or.inl ⟨i, j, hi, hj, rfl, Or.inl ⟨f, rfl⟩, rfl⟩, fun _ => Or.inr rfl⟩
    · exact ⟨0, 0, G, Or.inl ⟨i, j, hi, hj, rfl, Or.inr ⟨f, rfl⟩, rfl⟩, fun _ => Or.inl rfl⟩
  · exact ⟨1, 0, _, Or.inr ⟨q, rfl, rfl⟩, fun z => absurd z (by decide)⟩
theorem ex_owners (hr : g_room nW nE G) : ∃ c o G', A_owners G a c o G' := by
  by_cases q : ∃ k, gReg a k
  · obtain ⟨k, hk⟩ := q
    obtain ⟨l, hl, -⟩ := hr
    exact ⟨_, _, _, Or.inl ⟨k, l, hk, hl, rfl, rfl, rfl⟩⟩
  · exact ⟨_, 0, _, Or.inr ⟨q, rfl, rfl⟩⟩
theorem ex_instance (hs : ∀ v, ∃ ls, gOf G v ls) : ∃ c o G', A_instance G a1 a2 a3 c o G' := by
  by_cases q : (∃ k, gReg a1 k) ∧ (∃ j, gReg a2 j) ∧ ∃ n, n < 2 ^ 31 ∧ a3 = nI n
  · obtain ⟨⟨k, hk⟩, ⟨j, hj⟩, n, hn, ha⟩ := q
    obtain ⟨ls, hls⟩ := hs (G.1 j)
    cases hq : ls[n]? with
    | none => exact ⟨0, 0, G, Or.inl ⟨k, j, n, ls, hk, hj, hn, ha, hls, rfl, Or.inr ⟨hq, rfl, rfl⟩⟩⟩
    | some i => exact ⟨0, nI i, _, Or.inl ⟨k, j, n, ls, hk, hj, hn, ha, hls, rfl, Or.inl ⟨i, hq, rfl, rfl⟩⟩⟩
  · exact ⟨_, 0, _, Or.inr ⟨q, rfl, rfl⟩⟩
theorem ex_words (hr : g_room nW nE G) : ∃ o, A_words nW G o := by
  obtain ⟨l, hl, -⟩ := hr
  exact ⟨_, l, hl, rfl⟩
theorem ex_entries (hr : g_room nW nE G) : ∃ o, A_entries nE G o := by
  obtain ⟨l, hl, -⟩ := hr
  exact ⟨_, l, hl, rfl⟩
end EX
section CE
variable {nW nE K : Nat} {G : G_} {R f P S ro : Nat → Int32} {us sc li rd st : Int32}
theorem c_room (hE : nE ≤ 8192) (hc : c_rep nW nE K G R f us P S sc li ro rd st) : g_room nW nE G := by
  obtain ⟨os, sl, D, -, -, -, -, -, -, hc⟩ := hc
  obtain ⟨l, h1, h2, h3⟩ := g_all_ex (hc.wf hE) hc.2.2
  have h4 := hc.1.2.2.2.2.2.1
  have h5 := hc.1.1.2.1
  exact ⟨l, h1, by omega, by omega⟩
theorem c_sorted (hE : nE ≤ 8192) (hc : c_rep nW nE K G R f us P S sc li ro rd st) (v : AV_) : ∃ ls, gOf G v ls := by
  obtain ⟨os, sl, D, -, -, -, -, -, -, hc⟩ := hc
  have hw := hc.wf hE
  refine ⟨((os.filter (zo_rf os R)).filter (fun o => decide ((G.2.1 (oI o)).1 = v))).map oI, ?_, ?_⟩
  · exact hc.1.2.2.2.2.2.2.1.sublist ((List.filter_sublist.trans List.filter_sublist).map oI)
  · intro i
    constructor
    · intro hi
      obtain ⟨o, ho, rfl⟩ := List.mem_map.mp hi
      obtain ⟨ho1, ho2⟩ := List.mem_filter.mp ho
      obtain ⟨ho3, ho4⟩ := List.mem_filter.mp ho1
      exact ⟨zo_to_g hw hc.2.2 ho3 ((zo_rf_iff o).mp ho4), of_decide_eq_true ho2⟩
    · rintro ⟨h1, h2⟩
      obtain ⟨o, ho, rfl, hro⟩ := g_to_zo hw hc.2.2 h1
      exact List.mem_map_of_mem (List.mem_filter.mpr ⟨List.mem_filter.mpr ⟨ho, (zo_rf_iff o).mpr hro⟩, decide_eq_true h2⟩)
theorem c_last (hc : c_rep nW nE K G R f us P S sc li ro rd st) : G.2.2 ≤ K := by
  obtain ⟨os, sl, D, -, -, -, -, h, -⟩ := hc
  exact h
end CE
theorem lgz {ot : Nat → Int64} {b o : Int32} (h1 : ot 0 = o.toInt64) (h2 : b = o) : lg_cmp (ot (0 : Int32).toNatClampNeg) b.toInt64 = 0 := (lg_cmp_eq _ _).mpr (by rw [h2]; exact h1)

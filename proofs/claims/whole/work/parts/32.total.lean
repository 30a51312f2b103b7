/-! the store itself: registers, objects by identity, the last identity; what of it is reached, and how much that takes -/
abbrev G_ : Type := (Nat → AV_) × (Nat → AO_) × Nat
def g_all (G : G_) (l : List Nat) : Prop := l.Nodup ∧ ∀ i, i ∈ l ↔ g_reach G.1 G.2.1 i
theorem g_perm (F : Nat → Nat) : ∀ (l l' : List Nat), l.Nodup → l'.Nodup → (∀ i, i ∈ l ↔ i ∈ l') → (l.map F).sum = (l'.map F).sum := by
  intro l
  induction l with
  | nil =>
    intro l' _ _ h
    cases l' with
    | nil => rfl
    | cons a t => exact absurd ((h a).mpr List.mem_cons_self) (by simp)
  | cons a l ih =>
    intro l' h1 h2 h
    obtain ⟨s, t, rfl⟩ := List.append_of_mem ((h a).mp List.mem_cons_self)
    rw [List.nodup_cons] at h1
    rw [List.nodup_append, List.nodup_cons] at h2
    obtain ⟨n1, ⟨n2, n3⟩, n4⟩ := h2
    have := ih (s ++ t) h1.2 (by
      rw [List.nodup_append]
      exact ⟨n1, n3, fun x hx y hy => n4 x hx y (List.mem_cons_of_mem _ hy)⟩) (by
      intro i
      constructor
      · intro hi
        have hia : i ≠ a := fun e => h1.1 (e ▸ hi)
        have := (h i).mp (List.mem_cons_of_mem _ hi)
        rcases List.mem_append.mp this with q | q
        · exact List.mem_append_left _ q
        · rcases List.mem_cons.mp q with q | q
          · exact absurd q hia
          · exact List.mem_append_right _ q
      · intro hi
        have hia : i ≠ a := by
          intro e
          subst e
          rcases List.mem_append.mp hi with q | q
          · exact n4 i q i List.mem_cons_self rfl
          · exact n2 q
        have : i ∈ a :: l := by
          refine (h i).mpr ?_
          rcases List.mem_append.mp hi with q | q
          · exact List.mem_append_left _ q
          · exact List.mem_append_right _ (List.mem_cons_of_mem _ q)
        rcases List.mem_cons.mp this with q | q
        · exact absurd q hia
        · exact q)
    simp only [List.map_append, List.map_cons, List.sum_append, List.sum_cons] at this ⊢
    omega
theorem g_len (l : List Nat) : (l.map (fun _ => 1)).sum = l.length := by
  induction l with
  | nil => rfl
  | cons a l ih => simp only [List.map_cons, List.sum_cons, List.length_cons]; omega
theorem g_all_sum {G : G_} {l l' : List Nat} (h : g_all G l) (h' : g_all G l') (F : Nat → Nat) : (l.map F).sum = (l'.map F).sum :=
  g_perm F l l' h.1 h'.1 (fun i => by rw [h.2, h'.2])
theorem g_all_len {G : G_} {l l' : List Nat} (h : g_all G l) (h' : g_all G l') : l.length = l'.length := by
  rw [← g_len, ← g_len]
  exact g_all_sum h h' _
/-- the words that an object takes -/
def g_w (G : G_) (i : Nat) : Nat := 4 + bW_ (G.2.1 i).2.1
/-- there is room for w words more, and for an entry -/
def g_fits (nW nE : Nat) (G : G_) (w : Nat) : Prop := ∃ l, g_all G l ∧ l.length < nE ∧ (l.map (g_w G)).sum + w ≤ nW
theorem g_fits_iff {nW nE w : Nat} {G : G_} {l : List Nat} (h : g_all G l) : g_fits nW nE G w ↔ l.length < nE ∧ (l.map (g_w G)).sum + w ≤ nW := by
  constructor
  · rintro ⟨l', h', q⟩
    rw [g_all_len h h', g_all_sum h h']
    exact q
  · intro q
    exact ⟨l, h, q⟩
theorem zo_row_sum : ∀ os : List Ob_, (zo_row os).length = (os.map (fun o => 4 + (oB o).length)).sum := by
  intro os
  induction os with
  | nil => rfl
  | cons o os ih =>
    show (zo_flat o ++ zo_row os).length = _
    rw [List.length_append, zo_flat_len, ih]
    rfl
/-- all that is reached, as the objects have it -/
theorem g_all_of {bx : List Int32 → Nat → Int32} {os : List Ob_} {R : Nat → Int32} {G : G_} {g : Ob_ → Bool} (hw : zo_wf os R) (h : zo_abs bx os R G.1 G.2.1) (hg : ∀ o ∈ os, g o = true ↔ zo_reach os R (oE o)) :
    g_all G ((os.filter g).map oI) := by
  refine ⟨(List.filter_sublist.map oI).nodup hw.2.2.2.2.1, fun i => ⟨fun hi => ?_, fun hi => ?_⟩⟩
  · obtain ⟨o, ho, rfl⟩ := List.mem_map.mp hi
    obtain ⟨ho1, ho2⟩ := List.mem_filter.mp ho
    exact zo_to_g hw h ho1 ((hg o ho1).mp ho2)
  · obtain ⟨o, ho, rfl, hr⟩ := g_to_zo hw h hi
    exact List.mem_map_of_mem (List.mem_filter.mpr ⟨ho, (hg o ho).mpr hr⟩)
theorem g_sum_of {bx : List Int32 → Nat → Int32} {R : Nat → Int32} {G : G_} {os : List Ob_} (hw : zo_wf os R) (h : zo_abs bx os R G.1 G.2.1) : ∀ (l : List Ob_), (∀ o ∈ l, o ∈ os ∧ zo_reach os R (oE o)) → ((l.map oI).map (g_w G)).sum = (zo_row l).length := by
  intro l
  induction l with
  | nil => intro _; rfl
  | cons o l ih =>
    intro hl
    have h1 := hl o List.mem_cons_self
    have h2 := h.2 o h1.1 h1.2
    have h3 : g_w G (oI o) = 4 + (oB o).length := by
      unfold g_w
      rw [← h2, hw.2.2.2.2.2 o h1.1]
      rfl
    have := ih (fun x hx => hl x (List.mem_cons_of_mem _ hx))
    rw [zo_row_sum] at this ⊢
    simp only [List.map_cons, List.sum_cons]
    rw [h3, this]
noncomputable def zo_rf (os : List Ob_) (R : Nat → Int32) (o : Ob_) : Bool := @decide (zo_reach os R (oE o)) (Classical.propDecidable _)
theorem zo_rf_iff {os : List Ob_} {R : Nat → Int32} (o : Ob_) : zo_rf os R o = true ↔ zo_reach os R (oE o) := by
  unfold zo_rf
  exact @decide_eq_true_iff _ (Classical.propDecidable _)
/-- there is a list of all that is reached; the objects at hand take no less -/
theorem g_all_ex {bx : List Int32 → Nat → Int32} {os : List Ob_} {R : Nat → Int32} {G : G_} (hw : zo_wf os R) (h : zo_abs bx os R G.1 G.2.1) : ∃ l, g_all G l ∧ l.length ≤ os.length ∧ (l.map (g_w G)).sum ≤ (zo_row os).length := by
  refine ⟨_, g_all_of hw h (g := zo_rf os R) (fun o _ => zo_rf_iff o), ?_, ?_⟩
  · rw [List.length_map]
    exact List.length_filter_le _ _
  · rw [g_sum_of hw h]
    · exact zo_row_filter _ _
    · intro o ho
      exact ⟨(List.mem_filter.mp ho).1, (zo_rf_iff o).mp (List.mem_filter.mp ho).2⟩
/-- where all is reached they take just as much -/
theorem g_all_eq {bx : List Int32 → Nat → Int32} {os : List Ob_} {R : Nat → Int32} {G : G_} (hw : zo_wf os R) (h : zo_abs bx os R G.1 G.2.1) (hr : ∀ o ∈ os, zo_reach os R (oE o)) : g_all G (os.map oI) ∧ ((os.map oI).map (g_w G)).sum = (zo_row os).length := by
  have h1 := g_all_of hw h (g := fun _ => true) (fun o ho => ⟨fun _ => hr o ho, fun _ => rfl⟩)
  have h2 : os.filter (fun _ => true) = os := by simp
  rw [h2] at h1
  exact ⟨h1, g_sum_of hw h os (fun o ho => ⟨ho, hr o ho⟩)⟩
/-! registers, seen from the store -/
theorem zq_obj {bx : List Int32 → Nat → Int32} {os : List Ob_} {R : Nat → Int32} {G : G_} {k i : Nat} (hw : zo_wf os R) (h : zo_abs bx os R G.1 G.2.1) (hk : k < 32) (hi : G.1 k = .inr i) :
    ∃ o ∈ os, R k = ov_ (oE o) ∧ oI o = i ∧ zo_reach os R (oE o) ∧ zo_ao bx os o = G.2.1 i := by
  have h1 := h.1 k hk
  rw [hi] at h1
  rcases hw.2.2.2.1 k hk with q | ⟨o, ho, q⟩
  · rw [zv_n q] at h1; cases h1
  · rw [q, zv_ov hw.1 ho (hw.2.1 o ho)] at h1
    have h2 : oI o = i := Sum.inr.inj h1
    have hr : zo_reach os R (oE o) := zo_reach_root hk (by rw [q, zo_dec_ov (hw.2.1 o ho)])
    exact ⟨o, ho, q, h2, hr, by rw [← h2]; exact h.2 o ho hr⟩
theorem zq_val {bx : List Int32 → Nat → Int32} {os : List Ob_} {R : Nat → Int32} {G : G_} {k : Nat} {v : Int32} (hw : zo_wf os R) (h : zo_abs bx os R G.1 G.2.1) (hk : k < 32) (hi : G.1 k = .inl v) : R k = v ∧ (v = 0 ∨ ¬ v &&& (1 : Int32) = 0) := by
  have h1 := h.1 k hk
  rw [hi] at h1
  rcases hw.2.2.2.1 k hk with q | ⟨o, ho, q⟩
  · rw [zv_n q] at h1
    have h2 : R k = v := Sum.inl.inj h1
    rw [h2] at q
    exact ⟨h2, q⟩
  · rw [q, zv_ov hw.1 ho (hw.2.1 o ho)] at h1; cases h1
/-! what a call may do -/
def gReg (a : Int32) (k : Nat) : Prop := k < 32 ∧ a = nI k
def gHas (G : G_) (a : Int32) (i : Nat) : Prop := ∃ k, gReg a k ∧ G.1 k = .inr i
def gSl (G : G_) (a : Int32) (i : Nat) : Prop := gHas G a i ∧ (G.2.1 i).2.1 % 2 = 0
def gBy (G : G_) (a : Int32) (i : Nat) : Prop := gHas G a i ∧ (G.2.1 i).2.1 % 2 = 1
def gIx (a : Int32) (n j : Nat) : Prop := j < n ∧ a = nI j
def gR_ (G : G_) (k : Nat) (v : AV_) : G_ := (g_set G.1 k v, G.2)
def gO_ (G : G_) (i : Nat) (o : AO_) : G_ := (G.1, g_set G.2.1 i o, G.2.2)
/-- an object is made, and register k has it -/
def gM_ (G : G_) (k : Nat) (o : AO_) : G_ := (g_set G.1 k (.inr (G.2.2 + 1)), g_set G.2.1 (G.2.2 + 1) o, G.2.2 + 1)
def gNew (v : AV_) (h : Nat) : AO_ := (v, h, if h % 2 = 1 then [] else List.replicate (h / 2) (.inl 0), if h % 2 = 1 then List.replicate (h / 2) 0 else [])
def gSh (n : Nat) (b : Int32) : Nat := if b = 0 then 2 * n + 1 else 2 * n
def A_number (G : G_) (a b : Int32) (c : Int32) (G' : G_) : Prop :=
  (∃ k, gReg a k ∧ num_ b ∧ c = 0 ∧ G' = gR_ G k (.inl (nv_ b))) ∨ (¬ ((∃ k, gReg a k) ∧ num_ b) ∧ c = 1 ∧ G' = G)
def A_move (G : G_) (a b : Int32) (c : Int32) (G' : G_) : Prop :=
  (∃ k j, gReg a k ∧ gReg b j ∧ c = 0 ∧ G' = gR_ G k (G.1 j)) ∨ (¬ ((∃ k, gReg a k) ∧ ∃ j, gReg b j) ∧ c = 1 ∧ G' = G)
def A_clear (G : G_) (a : Int32) (c : Int32) (G' : G_) : Prop :=
  (∃ k, gReg a k ∧ c = 0 ∧ G' = gR_ G k (.inl 0)) ∨ (¬ (∃ k, gReg a k) ∧ c = 1 ∧ G' = G)
def A_makeOk (a1 a2 a3 a4 : Int32) (k j n : Nat) : Prop := gReg a1 k ∧ gReg a2 j ∧ a3 = nI n ∧ n ≤ (if a4 = 0 then 16000 else 4000)
def A_make (nW nE : Nat) (G : G_) (a1 a2 a3 a4 : Int32) (c o : Int32) (G' : G_) : Prop :=
  (∃ k j n, A_makeOk a1 a2 a3 a4 k j n ∧ g_fits nW nE G (4 + bW_ (gSh n a4)) ∧ c = 0 ∧ o = nI (G.2.2 + 1) ∧ G' = gM_ G k (gNew (G.1 j) (gSh n a4))) ∨
  (∃ k j n, A_makeOk a1 a2 a3 a4 k j n ∧ ¬ g_fits nW nE G (4 + bW_ (gSh n a4)) ∧ c = 2 ∧ G' = G) ∨ (¬ (∃ k j n, A_makeOk a1 a2 a3 a4 k j n) ∧ c = 1 ∧ G' = G)
def A_copy (nW nE : Nat) (G : G_) (a1 a2 : Int32) (c o : Int32) (G' : G_) : Prop :=
  (∃ k i, gReg a1 k ∧ gHas G a2 i ∧ g_fits nW nE G (g_w G i) ∧ c = 0 ∧ o = nI (G.2.2 + 1) ∧ G' = gM_ G k (G.2.1 i)) ∨
  (∃ k i, gReg a1 k ∧ gHas G a2 i ∧ ¬ g_fits nW nE G (g_w G i) ∧ c = 2 ∧ G' = G) ∨ (¬ ((∃ k, gReg a1 k) ∧ ∃ i, gHas G a2 i) ∧ c = 1 ∧ G' = G)
def g_link (G : G_) (k j n : Nat) : G_ := gM_ G k (G.1 j, 2 * n, G.1 k :: List.replicate (n - 1) (.inl 0), [])
def g_it (G : G_) (k j n : Nat) : Nat → G_
  | 0 => G
  | d + 1 => g_link (g_it G k j n d) k j n
def A_chainOk (a1 a2 a3 a4 : Int32) (k j n m : Nat) : Prop := gReg a1 k ∧ gReg a2 j ∧ a3 = nI n ∧ 1 ≤ n ∧ n ≤ 100 ∧ a4 = nI m ∧ 1 ≤ m ∧ m ≤ 4000
def A_chain (nW nE : Nat) (G : G_) (a1 a2 a3 a4 : Int32) (c o : Int32) (G' : G_) : Prop :=
  (∃ k j n m d, A_chainOk a1 a2 a3 a4 k j n m ∧ d ≤ m ∧ (∀ x, x < d → g_fits nW nE (g_it G k j n x) (4 + n)) ∧ (d = m ∨ ¬ g_fits nW nE (g_it G k j n d) (4 + n)) ∧ c = 0 ∧ o = nI d ∧ G' = g_it G k j n d) ∨
  (¬ (∃ k j n m, A_chainOk a1 a2 a3 a4 k j n m) ∧ c = 1 ∧ G' = G)
def A_get (G : G_) (a1 a2 a3 : Int32) (c : Int32) (G' : G_) : Prop :=
  (∃ k i j, gReg a1 k ∧ gSl G a2 i ∧ gIx a3 ((G.2.1 i).2.1 / 2) j ∧ c = 0 ∧ G' = gR_ G k ((G.2.1 i).2.2.1.getD j (.inl 0))) ∨
  (∃ k i, gReg a1 k ∧ gSl G a2 i ∧ ¬ (∃ j, gIx a3 ((G.2.1 i).2.1 / 2) j) ∧ c = 2 ∧ G' = G) ∨ (¬ ((∃ k, gReg a1 k) ∧ ∃ i, gSl G a2 i) ∧ c = 1 ∧ G' = G)
def A_put (G : G_) (a1 a2 a3 : Int32) (c : Int32) (G' : G_) : Prop :=
  (∃ k i j, gReg a3 k ∧ gSl G a1 i ∧ gIx a2 ((G.2.1 i).2.1 / 2) j ∧ c = 0 ∧ G' = gO_ G i ((G.2.1 i).1, (G.2.1 i).2.1, (G.2.1 i).2.2.1.set j (G.1 k), (G.2.1 i).2.2.2)) ∨
  (∃ k i, gReg a3 k ∧ gSl G a1 i ∧ ¬ (∃ j, gIx a2 ((G.2.1 i).2.1 / 2) j) ∧ c = 2 ∧ G' = G) ∨ (¬ ((∃ k, gReg a3 k) ∧ ∃ i, gSl G a1 i) ∧ c = 1 ∧ G' = G)
def gStep (G : G_) (a : Int32) (v w : AV_) : Prop := ∃ i j, v = .inr i ∧ (G.2.1 i).2.1 % 2 = 0 ∧ gIx a ((G.2.1 i).2.1 / 2) j ∧ w = (G.2.1 i).2.2.1.getD j (.inl 0)
def gWalk (G : G_) (a : Int32) : Nat → AV_ → Nat → AV_ → Prop
  | 0, v, d, w => d = 0 ∧ w = v
  | n + 1, v, d, w => (∃ u d', gStep G a v u ∧ d = d' + 1 ∧ gWalk G a n u d' w) ∨ (¬ (∃ u, gStep G a v u) ∧ d = 0 ∧ w = v)
def A_walk (G : G_) (a1 a2 a3 : Int32) (c o : Int32) (G' : G_) : Prop :=
  (∃ k n d w, gReg a1 k ∧ n ≤ 10000 ∧ a3 = nI n ∧ gWalk G a2 n (G.1 k) d w ∧ c = 0 ∧ o = nI d ∧ G' = gR_ G k w) ∨ (¬ ((∃ k, gReg a1 k) ∧ ∃ n, n ≤ 10000 ∧ a3 = nI n) ∧ c = 1 ∧ G' = G)
def A_classOf (G : G_) (a1 a2 : Int32) (c : Int32) (G' : G_) : Prop :=
  (∃ k i, gReg a1 k ∧ gHas G a2 i ∧ c = 0 ∧ G' = gR_ G k (G.2.1 i).1) ∨ (¬ ((∃ k, gReg a1 k) ∧ ∃ i, gHas G a2 i) ∧ c = 1 ∧ G' = G)
def A_setClass (G : G_) (a1 a2 : Int32) (c : Int32) (G' : G_) : Prop :=
  (∃ k i, gReg a2 k ∧ gHas G a1 i ∧ c = 0 ∧ G' = gO_ G i (G.1 k, (G.2.1 i).2)) ∨ (¬ ((∃ k, gReg a2 k) ∧ ∃ i, gHas G a1 i) ∧ c = 1 ∧ G' = G)
def A_byteAt (G : G_) (a1 a2 : Int32) (c o : Int32) (G' : G_) : Prop :=
  (∃ i j, gBy G a1 i ∧ gIx a2 ((G.2.1 i).2.1 / 2) j ∧ c = 0 ∧ o = (G.2.1 i).2.2.2.getD j 0 ∧ G' = G) ∨ (∃ i, gBy G a1 i ∧ ¬ (∃ j, gIx a2 ((G.2.1 i).2.1 / 2) j) ∧ c = 2 ∧ G' = G) ∨ (¬ (∃ i, gBy G a1 i) ∧ c = 1 ∧ G' = G)
/-- byte k of the eight -/
def gB8 (e : Int64) (k : Nat) : Int32 := (((e.toUInt64 >>> (((8 : Int32) * ((7 : Int32) - nI k)).toInt64.toUInt64 &&& Int64.toUInt64 63)).toInt64).toInt32) &&& (255 : Int32)
def gPut (e : Int64) (j : Nat) : Nat → List Int32 → List Int32
  | 0, l => l
  | n + 1, l => (gPut e j n l).set (j + n) (gB8 e n)
def A_bytePut (G : G_) (a1 a2 : Int32) (e : Int64) (c : Int32) (G' : G_) : Prop :=
  (∃ i j, gBy G a1 i ∧ gIx a2 ((G.2.1 i).2.1 / 2) j ∧ c = 0 ∧ G' = gO_ G i ((G.2.1 i).1, (G.2.1 i).2.1, (G.2.1 i).2.2.1, gPut e j (min 8 ((G.2.1 i).2.1 / 2 - j)) (G.2.1 i).2.2.2)) ∨
  (∃ i, gBy G a1 i ∧ ¬ (∃ j, gIx a2 ((G.2.1 i).2.1 / 2) j) ∧ c = 2 ∧ G' = G) ∨ (¬ (∃ i, gBy G a1 i) ∧ c = 1 ∧ G' = G)
def gKind (G : G_) (v : AV_) : Int32 := match v with
  | .inl x => if x = 0 then 0 else 1
  | .inr i => if (G.2.1 i).2.1 % 2 = 1 then 3 else 2
def A_kind (G : G_) (a : Int32) (c o : Int32) (G' : G_) : Prop := (∃ k, gReg a k ∧ c = 0 ∧ o = gKind G (G.1 k) ∧ G' = G) ∨ (¬ (∃ k, gReg a k) ∧ c = 1 ∧ G' = G)
def gVal (v : AV_) : Int32 := match v with
  | .inl x => if x = 0 then 0 else x >>> ((1 : Int32) &&& 31)
  | .inr i => nI i
def A_value (G : G_) (a : Int32) (c o : Int32) (G' : G_) : Prop := (∃ k, gReg a k ∧ c = 0 ∧ o = gVal (G.1 k) ∧ G' = G) ∨ (¬ (∃ k, gReg a k) ∧ c = 1 ∧ G' = G)
def gSize (G : G_) (v : AV_) : Int32 := match v with
  | .inl _ => 0
  | .inr i => nI ((G.2.1 i).2.1 / 2)
def A_size (G : G_) (a : Int32) (c o : Int32) (G' : G_) : Prop := (∃ k, gReg a k ∧ c = 0 ∧ o = gSize G (G.1 k) ∧ G' = G) ∨ (¬ (∃ k, gReg a k) ∧ c = 1 ∧ G' = G)
def A_become (G : G_) (a1 a2 : Int32) (c : Int32) (G' : G_) : Prop :=
  (∃ i j, gHas G a1 i ∧ gHas G a2 j ∧ c = 0 ∧ G' = (fun r => g_sw i j (G.1 r), fun x => g_swo i j (G.2.1 x), G.2.2)) ∨ (¬ ((∃ i, gHas G a1 i) ∧ ∃ j, gHas G a2 j) ∧ c = 1 ∧ G' = G)
def A_words (nW : Nat) (G : G_) (o : Int32) : Prop := ∃ l, g_all G l ∧ o = nI (nW - (l.map (g_w G)).sum)
def A_entries (nE : Nat) (G : G_) (o : Int32) : Prop := ∃ l, g_all G l ∧ o = nI (nE - l.length)
def gOf (G : G_) (v : AV_) (ls : List Nat) : Prop := ls.Pairwise (· < ·) ∧ ∀ i, i ∈ ls ↔ g_reach G.1 G.2.1 i ∧ (G.2.1 i).1 = v
def A_instance (G : G_) (a1 a2 a3 : Int32) (c o : Int32) (G' : G_) : Prop :=
  (∃ k j n ls, gReg a1 k ∧ gReg a2 j ∧ n < 2 ^ 31 ∧ a3 = nI n ∧ gOf G (G.1 j) ls ∧ c = 0 ∧ ((∃ i, ls[n]? = some i ∧ o = nI i ∧ G' = gR_ G k (.inr i)) ∨ (ls[n]? = none ∧ o = 0 ∧ G' = G))) ∨
  (¬ ((∃ k, gReg a1 k) ∧ (∃ j, gReg a2 j) ∧ ∃ n, n < 2 ^ 31 ∧ a3 = nI n) ∧ c = 1 ∧ G' = G)
def gCnt (v : AV_) (l : List AV_) : Nat := l.countP (fun x => decide (x = v))
def gHold (G : G_) (v : AV_) (i : Nat) : Nat := gCnt v (g_kids (G.2.1 i))
def A_owners (G : G_) (a : Int32) (c o : Int32) (G' : G_) : Prop :=
  (∃ k l, gReg a k ∧ g_all G l ∧ c = 0 ∧ o = nI ((l.map (gHold G (G.1 k))).sum + gCnt (G.1 k) ((List.range 32).map G.1)) ∧ G' = G) ∨ (¬ (∃ k, gReg a k) ∧ c = 1 ∧ G' = G)
def A_reaches (G : G_) (a1 a2 : Int32) (c o : Int32) (G' : G_) : Prop :=
  (∃ i j, gHas G a1 i ∧ gHas G a2 j ∧ c = 0 ∧ ((g_reach (fun _ => .inr i) G.2.1 j ∧ o = 1) ∨ (¬ g_reach (fun _ => .inr i) G.2.1 j ∧ o = 0)) ∧ G' = G) ∨ (¬ ((∃ i, gHas G a1 i) ∧ ∃ j, gHas G a2 j) ∧ c = 1 ∧ G' = G)
def gSum (G : G_) (v : AV_) : Int32 := match v with
  | .inl _ => 0
  | .inr i => if (G.2.1 i).2.1 % 2 = 1 then (G.2.1 i).2.2.2.foldl (fun t b => (31 : Int32) * t + b) 7 else 0
def A_sum (G : G_) (a : Int32) (c o : Int32) (G' : G_) : Prop := (∃ k, gReg a k ∧ c = 0 ∧ o = gSum G (G.1 k) ∧ G' = G) ∨ (¬ (∃ k, gReg a k) ∧ c = 1 ∧ G' = G)

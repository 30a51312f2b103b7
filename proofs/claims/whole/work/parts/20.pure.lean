/-! numbers and values of the class, as pure facts -/
/-- the int that stands for the object of entry e -/
def ov_ (e : Nat) : Int32 := nI (2 * e + 2)
theorem ov_ne0 {e : Nat} (h : e < 8192) : ¬ ov_ e = 0 := nI_ne0 (by omega) (by omega)
theorem ov_and {e : Nat} (h : e < 8192) : ov_ e &&& (1 : Int32) = 0 := by
  unfold ov_
  rw [pk_andN (by omega) (m := 1) 1 (by decide), show (2 * e + 2) % 2 ^ 1 = 0 by omega]
  rfl
theorem ov_shr {e : Nat} (h : e < 8192) : (ov_ e >>> ((1 : Int32) &&& 31)) - 1 = nI e := by
  unfold ov_
  rw [pk_shrN (by omega) _ 1 (by decide), show (2 * e + 2) / 2 ^ 1 = e + 1 by omega]
  exact nI_pred e
theorem ov_of {e : Nat} : (2 : Int32) * nI e + 2 = ov_ e := by
  unfold ov_
  rw [show (2 : Int32) = nI 2 from rfl, pk_mul, nI_add]
theorem ov_inj {a b : Nat} (ha : a < 8192) (hb : b < 8192) : ov_ a = ov_ b ↔ a = b := by
  unfold ov_
  rw [nI_eq (by omega) (by omega)]
  omega
/-- the int that stands for a number -/
def nv_ (n : Int32) : Int32 := (2 : Int32) * n + 1
theorem nv_nat (n : Int32) : (nv_ n).toBitVec.toNat = (2 * n.toBitVec.toNat + 1) % 2 ^ 32 := by
  unfold nv_
  rw [Int32.toBitVec_add, Int32.toBitVec_mul, BitVec.toNat_add, BitVec.toNat_mul]
  show ((2 * n.toBitVec.toNat) % 2 ^ 32 + 1) % 2 ^ 32 = _
  omega
theorem nv_and (n : Int32) : nv_ n &&& (1 : Int32) = 1 := by
  rw [pk_and (nv_ n) (m := 1) 1 (by decide), nv_nat]
  rw [show (2 * n.toBitVec.toNat + 1) % 2 ^ 32 % 2 ^ 1 = 1 by omega]
  rfl
theorem nv_and0 (n : Int32) : ¬ (nv_ n &&& (1 : Int32) = 0) := by
  rw [nv_and]; decide
theorem nv_ne0 (n : Int32) : ¬ nv_ n = 0 := by
  intro h
  have := nv_and n
  rw [h] at this
  exact absurd this (by decide)
def num_ (n : Int32) : Prop := -1073741824 ≤ n.toInt ∧ n.toInt ≤ 1073741823
theorem nv_int {n : Int32} (h : num_ n) : (nv_ n).toInt = 2 * n.toInt + 1 := by
  obtain ⟨h1, h2⟩ := h
  unfold nv_
  rw [Int32.toInt_add, Int32.toInt_mul]
  rw [show (2 : Int32).toInt = 2 from rfl, show (1 : Int32).toInt = 1 from rfl]
  rw [Int.bmod_eq_of_le (n := 2 * n.toInt) (by omega) (by omega), Int.bmod_eq_of_le (by omega) (by omega)]
theorem nv_shr {n : Int32} (h : num_ n) : nv_ n >>> ((1 : Int32) &&& 31) = n := by
  apply Int32.toInt_inj.mp
  rw [pk_shr _ _ 1 (by decide), nv_int h, Int.shiftRight_eq_div_pow]
  omega
theorem nv_inj {a b : Int32} (ha : num_ a) (hb : num_ b) (h : nv_ a = nv_ b) : a = b := by
  rw [← nv_shr ha, ← nv_shr hb, h]
theorem nv_ov {n : Int32} {e : Nat} (he : e < 8192) : ¬ nv_ n = ov_ e := by
  intro h
  have := nv_and n
  rw [h, ov_and he] at this
  exact absurd this (by decide)
/-- a list of different numbers below n is no longer than n -/
theorem zo_pigeon : ∀ (n : Nat) (l : List Nat), l.Nodup → (∀ x ∈ l, x < n) → l.length ≤ n := by
  intro n
  induction n with
  | zero =>
    intro l _ h
    cases l with
    | nil => simp
    | cons a l => exact absurd (h a List.mem_cons_self) (by omega)
  | succ n ih =>
    intro l hn h
    by_cases hm : n ∈ l
    · have h1 : (l.erase n).length ≤ n := by
        refine ih _ (hn.erase n) ?_
        intro x hx
        have h2 := (List.Nodup.mem_erase_iff hn).mp hx
        have h3 := h x h2.2
        omega
      rw [List.length_erase_of_mem hm] at h1
      omega
    · have h1 : l.length ≤ n := by
        refine ih l hn ?_
        intro x hx
        have h3 := h x hx
        have : x ≠ n := fun e => hm (e ▸ hx)
        omega
      omega
/-! the row of words as a list of objects: entry, identity, class, shape, body -/
abbrev Ob_ : Type := Nat × Nat × Int32 × Nat × List Int32
abbrev oE (o : Ob_) : Nat := o.1
abbrev oI (o : Ob_) : Nat := o.2.1
abbrev oC (o : Ob_) : Int32 := o.2.2.1
abbrev oH (o : Ob_) : Nat := o.2.2.2.1
abbrev oB (o : Ob_) : List Int32 := o.2.2.2.2
/-- how many words a body of a shape takes -/
def bW_ (h : Nat) : Nat := if h % 2 = 1 then (h / 2 + 3) / 4 else h / 2
def zo_flat (o : Ob_) : List Int32 := nI (oE o) :: nI (oI o) :: oC o :: nI (oH o) :: oB o
def zo_row : List Ob_ → List Int32
  | [] => []
  | o :: os => zo_flat o ++ zo_row os
theorem zo_row_app (a b : List Ob_) : zo_row (a ++ b) = zo_row a ++ zo_row b := by
  induction a with
  | nil => rfl
  | cons o a ih => simp [zo_row, ih]
theorem zo_flat_len (o : Ob_) : (zo_flat o).length = 4 + (oB o).length := by
  simp [zo_flat]; omega
def zo_is (f : Nat → Int32) (l : List Int32) (p : Nat) : Prop := ∀ k x, l[k]? = some x → f (p + k) = x
theorem zo_is_app {f : Nat → Int32} {a b : List Int32} {p : Nat} : zo_is f (a ++ b) p ↔ zo_is f a p ∧ zo_is f b (p + a.length) := by
  constructor
  · intro h
    refine ⟨fun k x hk => h k x ?_, fun k x hk => ?_⟩
    · have hlt : k < a.length := (List.getElem?_eq_some_iff.mp hk).1
      rw [List.getElem?_append_left hlt]; exact hk
    · have h1 := h (a.length + k) x (by rw [List.getElem?_append_right (by omega)]; simpa using hk)
      rw [← h1]; congr 1; omega
  · rintro ⟨h1, h2⟩ k x hk
    by_cases hlt : k < a.length
    · rw [List.getElem?_append_left hlt] at hk
      exact h1 k x hk
    · rw [List.getElem?_append_right (by omega)] at hk
      have h3 := h2 (k - a.length) x hk
      rw [← h3]; congr 1; omega
theorem zo_at {f : Nat → Int32} {pre post : List Ob_} {o : Ob_} (h : zo_is f (zo_row (pre ++ o :: post)) 0) :
    f (zo_row pre).length = nI (oE o) ∧ f ((zo_row pre).length + 1) = nI (oI o) ∧ f ((zo_row pre).length + 2) = oC o ∧ f ((zo_row pre).length + 3) = nI (oH o) ∧ zo_is f (oB o) ((zo_row pre).length + 4) := by
  rw [zo_row_app, zo_is_app] at h
  obtain ⟨-, h⟩ := h
  rw [show zo_row (o :: post) = zo_flat o ++ zo_row post from rfl, zo_is_app] at h
  obtain ⟨h, -⟩ := h
  simp only [Nat.zero_add] at h
  refine ⟨h 0 _ rfl, h 1 _ rfl, h 2 _ rfl, h 3 _ rfl, fun k x hk => ?_⟩
  have := h (4 + k) x (by show (_ :: _ :: _ :: _ :: oB o)[4 + k]? = _; rw [show 4 + k = k + 1 + 1 + 1 + 1 by omega]; simpa using hk)
  rw [← this]; congr 1; omega

/-! what the small methods of Value and Memory do, in numbers -/
theorem zi_3 (p : Nat) : nI p + (3 : Int32) = nI (p + 3) := nI_add p 3
theorem zi_2 (p : Nat) : nI p + (2 : Int32) = nI (p + 2) := nI_add p 2
theorem zi_1 (p : Nat) : nI p + (1 : Int32) = nI (p + 1) := nI_add p 1
theorem zi_0 (p : Nat) : nI p + (0 : Int32) = nI p := nI_add p 0
theorem zi_4 (p : Nat) : nI p + (4 : Int32) = nI (p + 4) := nI_add p 4
theorem zi_4' (p : Nat) : (4 : Int32) + nI p = nI (4 + p) := nI_add 4 p
theorem zi_shr1 {n : Nat} (h : n < 2 ^ 31) : nI n >>> ((1 : Int32) &&& 31) = nI (n / 2) := by
  rw [pk_shrN h _ 1 (by decide)]
theorem zi_shr2 {n : Nat} (h : n < 2 ^ 31) : nI n >>> ((2 : Int32) &&& 31) = nI (n / 4) := by
  rw [pk_shrN h _ 2 (by decide)]
theorem zi_and1 {n : Nat} (h : n < 2 ^ 31) : nI n &&& (1 : Int32) = nI (n % 2) := by
  rw [pk_andN (by omega) (m := 1) 1 (by decide)]
theorem sp_isObject_o {e : Nat} (he : e < 8192) {post : Int32 → Prop} (h : post 1) : wqV_isObject (ov_ e) post := by
  unfold wqV_isObject
  exact ⟨fun c => absurd c (ov_ne0 he), fun _ => ⟨fun _ => h, fun c => absurd (ov_and he) c⟩⟩
theorem sp_isObject_n {v : Int32} (hv : v = 0 ∨ ¬ v &&& (1 : Int32) = 0) {post : Int32 → Prop} (h : post 0) : wqV_isObject v post := by
  unfold wqV_isObject
  refine ⟨fun _ => h, fun c => ⟨fun c2 => ?_, fun _ => h⟩⟩
  rcases hv with hv | hv
  · exact absurd hv c
  · exact absurd c2 hv
theorem sp_isNumber_o {e : Nat} (he : e < 8192) {post : Int32 → Prop} (h : post 0) : wqV_isNumber (ov_ e) post := by
  unfold wqV_isNumber
  exact ⟨fun _ => h, fun c => absurd (ov_and he) c⟩
theorem sp_isNumber_n {n : Int32} {post : Int32 → Prop} (h : post 1) : wqV_isNumber (nv_ n) post := by
  unfold wqV_isNumber
  exact ⟨fun c => absurd c (nv_and0 n), fun _ => h⟩
theorem sp_toEntry {e : Nat} (he : e < 8192) {post : Int32 → Prop} (h : post (nI e)) : wqV_toEntry (ov_ e) post := by
  unfold wqV_toEntry
  rw [ov_shr he]
  exact h
theorem sp_ofEntry {e : Nat} {post : Int32 → Prop} (h : post (ov_ e)) : wqV_ofEntry (nI e) post := by
  unfold wqV_ofEntry
  rw [ov_of]
  exact h
theorem sp_isOfBytes {s : Nat} (hs : s < 2 ^ 31) {post : Int32 → Prop} (h : post (if s % 2 = 1 then 1 else 0)) : wqM_isOfBytes (nI s) post := by
  unfold wqM_isOfBytes
  rw [zi_and1 hs]
  by_cases c : s % 2 = 1
  · rw [if_pos c] at h
    exact ⟨fun q => absurd q (nI_ne0 (by omega) (by omega)), fun _ => h⟩
  · rw [if_neg c] at h
    exact ⟨fun _ => h, fun q => absurd (by rw [show s % 2 = 0 by omega]; rfl) q⟩
theorem sp_bodyWords {s : Nat} (hs : s < 2 ^ 30) {post : Int32 → Prop} (h : post (nI (bW_ s))) : wqM_bodyWords (nI s) post := by
  unfold wqM_bodyWords
  refine sp_isOfBytes (by omega) ?_
  rw [zi_shr1 (by omega), zi_3, zi_shr2 (by omega)]
  unfold bW_ at h
  by_cases c : s % 2 = 1
  · rw [if_pos c] at h ⊢
    exact ⟨fun q => absurd q (by decide), fun _ => h⟩
  · rw [if_neg c] at h ⊢
    exact ⟨fun _ => h, fun q => absurd rfl q⟩
theorem sp_shape {n : Nat} {b : Int32} {post : Int32 → Prop} (h : post (nI (if b = 0 then 2 * n + 1 else 2 * n))) : wqM_shape (nI n) b post := by
  unfold wqM_shape
  rw [show (2 : Int32) * nI n = nI (2 * n) from pk_mul 2 n, zi_1]
  by_cases c : b = 0
  · rw [if_pos c] at h
    exact ⟨fun _ => h, fun q => absurd c q⟩
  · rw [if_neg c] at h
    exact ⟨fun q => absurd q c, fun _ => h⟩
theorem sp_place {nW nE e : Nat} {P : Nat → Int32} (hE : nE ≤ 8192) (he : e < nE) {post : Int32 → Prop} (h : post (P e)) : wqM_place nW nE P (ov_ e) post := by
  unfold wqM_place
  refine sp_toEntry (by omega) ?_
  rw [nI_clamp (by omega)]
  exact ⟨fun c => absurd c (nI_pos (by omega)), fun _ => ⟨fun c => absurd c (nI_ge he (by omega)), fun _ => ⟨vp_in_nI he (by omega), h⟩⟩⟩
theorem sp_word {nW nE k : Nat} {f : Nat → Int32} (hW : nW ≤ 65536) (hk : k < nW) {post : Int32 → Prop} (h : post (f k)) : wqM_word nW nE f (nI k) post := by
  unfold wqM_word
  rw [nI_clamp (by omega)]
  exact ⟨fun c => absurd c (nI_pos (by omega)), fun _ => ⟨fun c => absurd c (nI_ge hk (by omega)), fun _ => ⟨vp_in_nI hk (by omega), h⟩⟩⟩
theorem sp_setWord {nW nE k : Nat} {f : Nat → Int32} {x : Int32} (hW : nW ≤ 65536) (hk : k < nW) {post : (Nat → Int32) → Prop} (h : post (upd f k x)) : wqM_setWord nW nE f (nI k) x post := by
  unfold wqM_setWord
  rw [nI_clamp (by omega)]
  exact ⟨fun c => absurd c (nI_pos (by omega)), fun _ => ⟨fun c => absurd c (nI_ge hk (by omega)), fun _ => ⟨vp_in_nI hk (by omega), h⟩⟩⟩
theorem zi_max {a b : Nat} (ha : a < 2 ^ 31) (hb : b < 2 ^ 31) : (if nI a < nI b then nI b else nI a) = nI (if a < b then b else a) := by
  by_cases c : a < b
  · rw [if_pos c, if_pos ((nI_ltI ha hb).mpr c)]
  · rw [if_neg c, if_neg (fun q => c ((nI_ltI ha hb).mp q))]
theorem zi_min {a b : Nat} (h : b ≤ a) (ha : a < 2 ^ 31) : (if nI a < nI b then nI a else nI b) = nI b := if_neg (nI_nlt h ha)
theorem sp_copyWords {nW nE a b k : Nat} {f : Nat → Int32} (hW : nW ≤ 65536) (ha : a + k ≤ nW) (hb : b + k ≤ nW) {post : (Nat → Int32) → Prop} (h : post (va_cpy f f a b k)) : wqM_copyWords nW nE f (nI a) (nI b) (nI k) post := by
  unfold wqM_copyWords
  rw [zi_max (by omega) (by omega)]
  have hm : (if a < b then b else a) + k ≤ nW := by split <;> omega
  generalize (if a < b then b else a) = m at hm ⊢
  rw [pk_sub (by omega), nI_clamp (n := a) (by omega), nI_clamp (n := b) (by omega), nI_clamp (n := k) (by omega)]
  exact ⟨fun c => absurd c (nI_pos (by omega)), fun _ => ⟨fun c => absurd c (nI_pos (by omega)), fun _ => ⟨fun c => absurd c (nI_pos (by omega)), fun _ => ⟨fun c => absurd c (nI_nlt (by omega) (by omega)), fun _ => ⟨nI_pos (by omega), nI_pos (by omega), nI_pos (by omega), ha, hb, h⟩⟩⟩⟩⟩
/-- object o stands at word p, and entry e leads there -/
def zo_ob (nW nE : Nat) (f P : Nat → Int32) (e : Nat) (o : Ob_) (p : Nat) : Prop := e < nE ∧ P e = nI p ∧ zo_is f (zo_flat o) p ∧ p + (4 + (oB o).length) ≤ nW ∧ oH o < 2 ^ 20 ∧ nE ≤ 8192 ∧ nW ≤ 65536
section SPO
variable {nW nE e p : Nat} {f P : Nat → Int32} {o : Ob_} {post : Int32 → Prop}
theorem zo_ob.sh (h : zo_ob nW nE f P e o p) : f (p + 3) = nI (oH o) := h.2.2.1 3 _ rfl
theorem zo_ob.cl (h : zo_ob nW nE f P e o p) : f (p + 2) = oC o := h.2.2.1 2 _ rfl
theorem zo_ob.id (h : zo_ob nW nE f P e o p) : f (p + 1) = nI (oI o) := h.2.2.1 1 _ rfl
theorem zo_ob.en (h : zo_ob nW nE f P e o p) : f p = nI (oE o) := h.2.2.1 0 _ rfl
theorem zo_ob.bd (h : zo_ob nW nE f P e o p) {i : Nat} {x : Int32} (hx : (oB o)[i]? = some x) : f (p + 4 + i) = x := by
  have h1 := h.2.2.1 (4 + i) x (by show (_ :: _ :: _ :: _ :: oB o)[4 + i]? = _; rw [show 4 + i = i + 1 + 1 + 1 + 1 by omega]; simpa using hx)
  rw [← h1]; congr 1; omega
theorem sp_shapeOf (h : zo_ob nW nE f P e o p) (hp : post (nI (oH o))) : wqM_shapeOf nW nE f P (ov_ e) post := by
  have hsh := h.sh
  obtain ⟨h1, h2, h3, h4, h5, h6, h7⟩ := h
  unfold wqM_shapeOf
  refine sp_place h6 h1 ?_
  rw [h2, zi_3]
  refine sp_word h7 (by omega) ?_
  rw [hsh]
  exact hp
theorem sp_holdsSlots_o (h : zo_ob nW nE f P e o p) (hp : post (if oH o % 2 = 1 then 0 else 1)) : wqM_holdsSlots nW nE f P (ov_ e) post := by
  have hob := id h
  obtain ⟨h1, h2, h3, h4, h5, h6, h7⟩ := h
  unfold wqM_holdsSlots
  refine sp_isObject_o (by omega) ⟨fun q => absurd q (by decide), fun _ => sp_shapeOf hob (sp_isOfBytes (by omega) ?_)⟩
  by_cases c : oH o % 2 = 1
  · rw [if_pos c] at hp ⊢
    exact ⟨fun q => absurd q (by decide), fun _ => hp⟩
  · rw [if_neg c] at hp ⊢
    exact ⟨fun _ => hp, fun q => absurd rfl q⟩
theorem sp_holdsSlots_n {v : Int32} (hv : v = 0 ∨ ¬ v &&& (1 : Int32) = 0) (hp : post 0) : wqM_holdsSlots nW nE f P v post := by
  unfold wqM_holdsSlots
  exact sp_isObject_n hv ⟨fun _ => hp, fun q => absurd rfl q⟩
theorem sp_holdsBytes_o (h : zo_ob nW nE f P e o p) (hp : post (if oH o % 2 = 1 then 1 else 0)) : wqM_holdsBytes nW nE f P (ov_ e) post := by
  have hob := id h
  obtain ⟨h1, h2, h3, h4, h5, h6, h7⟩ := h
  unfold wqM_holdsBytes
  refine sp_isObject_o (by omega) ⟨fun q => absurd q (by decide), fun _ => sp_shapeOf hob (sp_isOfBytes (by omega) ?_)⟩
  by_cases c : oH o % 2 = 1
  · rw [if_pos c] at hp ⊢
    exact ⟨fun q => absurd q (by decide), fun _ => hp⟩
  · rw [if_neg c] at hp ⊢
    exact ⟨fun _ => hp, fun q => absurd rfl q⟩
theorem sp_holdsBytes_n {v : Int32} (hv : v = 0 ∨ ¬ v &&& (1 : Int32) = 0) (hp : post 0) : wqM_holdsBytes nW nE f P v post := by
  unfold wqM_holdsBytes
  exact sp_isObject_n hv ⟨fun _ => hp, fun q => absurd rfl q⟩
theorem sp_count (h : zo_ob nW nE f P e o p) (hp : post (nI (oH o / 2))) : wqM_count nW nE f P (ov_ e) post := by
  unfold wqM_count
  refine sp_shapeOf h ?_
  obtain ⟨h1, h2, h3, h4, h5, h6, h7⟩ := h
  rw [zi_shr1 (by omega)]
  exact hp
theorem sp_identity (h : zo_ob nW nE f P e o p) (hp : post (nI (oI o))) : wqM_identity nW nE f P (ov_ e) post := by
  have hsh := h.id
  obtain ⟨h1, h2, h3, h4, h5, h6, h7⟩ := h
  unfold wqM_identity
  refine sp_place h6 h1 ?_
  rw [h2, zi_1]
  refine sp_word h7 (by omega) ?_
  rw [hsh]
  exact hp
theorem sp_itsClass (h : zo_ob nW nE f P e o p) (hp : post (oC o)) : wqM_itsClass nW nE f P (ov_ e) post := by
  have hsh := h.cl
  obtain ⟨h1, h2, h3, h4, h5, h6, h7⟩ := h
  unfold wqM_itsClass
  refine sp_place h6 h1 ?_
  rw [h2, zi_2]
  refine sp_word h7 (by omega) ?_
  rw [hsh]
  exact hp
theorem sp_slot (h : zo_ob nW nE f P e o p) {i : Nat} {x : Int32} (hx : (oB o)[i]? = some x) (hp : post x) : wqM_slot nW nE f P (ov_ e) (nI i) post := by
  have hsh := h.bd hx
  have hi : i < (oB o).length := (List.getElem?_eq_some_iff.mp hx).1
  obtain ⟨h1, h2, h3, h4, h5, h6, h7⟩ := h
  unfold wqM_slot
  refine sp_place h6 h1 ?_
  rw [h2, zi_4, nI_add]
  refine sp_word h7 (by omega) ?_
  rw [hsh]
  exact hp
theorem sp_holdsSlot_n {v i : Int32} (hv : v = 0 ∨ ¬ v &&& (1 : Int32) = 0) (hp : post 0) : wqM_holdsSlot nW nE f P v i post := by
  unfold wqM_holdsSlot
  exact sp_holdsSlots_n hv ⟨fun _ => hp, fun q => absurd rfl q⟩
theorem sp_holdsSlot_o {i : Int32} (h : zo_ob nW nE f P e o p) (hno : (oH o % 2 = 1 ∨ i < 0 ∨ nI (oH o / 2) ≤ i) → post 0) (hok : oH o % 2 ≠ 1 → ¬ i < 0 → ¬ nI (oH o / 2) ≤ i → post 1) : wqM_holdsSlot nW nE f P (ov_ e) i post := by
  unfold wqM_holdsSlot
  refine sp_holdsSlots_o h ?_
  by_cases c : oH o % 2 = 1
  · rw [if_pos c]
    exact ⟨fun _ => hno (Or.inl c), fun q => absurd rfl q⟩
  · rw [if_neg c]
    exact ⟨fun q => absurd q (by decide), fun _ => ⟨fun c2 => hno (Or.inr (Or.inl c2)), fun c2 => sp_count h ⟨fun c3 => hno (Or.inr (Or.inr c3)), fun c3 => hok c c2 c3⟩⟩⟩
theorem sp_letGo_o {st : Int32} (he : e < 8192) (hp : post 0) : wqM_letGo nW nE st (ov_ e) post := by
  unfold wqM_letGo
  exact sp_isObject_o he ⟨fun q => absurd q (by decide), fun _ => hp⟩
theorem sp_letGo_n {st v : Int32} (hv : v = 0 ∨ ¬ v &&& (1 : Int32) = 0) (hp : post st) : wqM_letGo nW nE st v post := by
  unfold wqM_letGo
  exact sp_isObject_n hv ⟨fun _ => hp, fun q => absurd rfl q⟩
end SPO

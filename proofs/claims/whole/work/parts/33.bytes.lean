/-! bytes in a word -/
def by_ (w : Int32) (k : Nat) : Int32 := nI (w.toBitVec.toNat / 2 ^ k % 2 ^ 8)
def bxC (l : List Int32) (i : Nat) : Int32 := by_ (l.getD (i / 4) 0) (8 * (i % 4))
def bxR (l : List Int32) (i : Nat) : Int32 := by_ (l.getD (i / 4) 0) (24 - 8 * (i % 4))
theorem by_0 (k : Nat) : by_ 0 k = 0 := by
  unfold by_
  show nI (0 / 2 ^ k % 2 ^ 8) = 0
  rw [Nat.zero_div]
  rfl
theorem by_get (w s : Int32) (k : Nat) (hs : ((s.toUInt32 &&& Int32.toUInt32 31).toBitVec % 32).toNat = k) : (w.toUInt32 >>> (s.toUInt32 &&& Int32.toUInt32 31)).toInt32 &&& (255 : Int32) = by_ w k := by
  rw [pk_and _ (m := 255) 8 (by decide), pk_ushr _ _ _ hs]
  rfl
theorem by_bit (n s j : Nat) (hj : j < 32) : (n * 2 ^ s % 2 ^ 32).testBit j = (decide (s ≤ j) && n.testBit (j - s)) := by
  rw [Nat.testBit_mod_two_pow, Nat.testBit_mul_two_pow]
  simp [hj]
/-- a byte is written -/
theorem by_set (w s : Int32) (b k k' : Nat) (hb : b < 256) (hs : (s.toBitVec.smod 32).toNat = k) (hk : k ≤ 24) (hk' : k' ≤ 24) (h : k = k' ∨ k + 8 ≤ k' ∨ k' + 8 ≤ k) :
    by_ ((w &&& (((255 : Int32) <<< s) ^^^ (-1 : Int32))) ||| (nI b <<< s)) k' = if k = k' then nI b else by_ w k' := by
  have hbit : ∀ j, j < 32 → ((w &&& (((255 : Int32) <<< s) ^^^ (-1 : Int32))) ||| (nI b <<< s)).toBitVec.toNat.testBit j = ((w.toBitVec.toNat.testBit j && !(decide (k ≤ j) && decide (j - k < 8))) || (decide (k ≤ j) && b.testBit (j - k))) := by
    intro j hj
    rw [Int32.toBitVec_or, Int32.toBitVec_and, Int32.toBitVec_xor, BitVec.toNat_or, Nat.testBit_or, BitVec.toNat_and, Nat.testBit_and, BitVec.toNat_xor, Nat.testBit_xor]
    rw [pk_shl _ _ _ hs, pk_shl _ _ _ hs, by_bit _ _ _ hj, by_bit _ _ _ hj]
    have h1 : (-1 : Int32).toBitVec.toNat.testBit j = true := by
      show (2 ^ 32 - 1 : Nat).testBit j = true
      rw [Nat.testBit_two_pow_sub_one]
      simp [hj]
    have h2 : (255 : Int32).toBitVec.toNat.testBit (j - k) = decide (j - k < 8) := by
      show (2 ^ 8 - 1 : Nat).testBit (j - k) = _
      rw [Nat.testBit_two_pow_sub_one]
    have h3 : (nI b).toBitVec.toNat = b := pk_tn (by omega)
    rw [h1, h2, h3]
    simp
  have key : ((w &&& (((255 : Int32) <<< s) ^^^ (-1 : Int32))) ||| (nI b <<< s)).toBitVec.toNat / 2 ^ k' % 2 ^ 8 = if k = k' then b else w.toBitVec.toNat / 2 ^ k' % 2 ^ 8 := by
    apply Nat.eq_of_testBit_eq
    intro i
    rw [Nat.testBit_mod_two_pow, Nat.testBit_div_two_pow]
    by_cases hi : i < 8
    · rw [show i + k' = k' + i by omega, hbit (k' + i) (by omega)]
      by_cases c : k = k'
      · subst c
        rw [if_pos rfl, show k + i - k = i by omega]
        simp [hi]
      · rw [if_neg c, Nat.testBit_mod_two_pow, Nat.testBit_div_two_pow, show i + k' = k' + i by omega]
        by_cases c2 : k ≤ k' + i
        · have h8 : 8 ≤ k' + i - k := by omega
          have hz : b.testBit (k' + i - k) = false := Nat.testBit_lt_two_pow (Nat.lt_of_lt_of_le (show b < 2 ^ 8 by omega) (Nat.pow_le_pow_right (by omega) h8))
          have h9 : ¬ k' + i - k < 8 := by omega
          simp [hi, hz, h9]
        · simp [hi, c2]
    · by_cases c : k = k'
      · rw [if_pos c]
        have hz : b.testBit i = false := Nat.testBit_lt_two_pow (Nat.lt_of_lt_of_le (show b < 2 ^ 8 by omega) (Nat.pow_le_pow_right (by omega) (by omega)))
        simp [hi, hz]
      · rw [if_neg c, Nat.testBit_mod_two_pow]
        simp [hi]
  unfold by_
  rw [key]
  split <;> rfl
theorem gB8_lt (e : Int64) (k : Nat) : ∃ b, b < 256 ∧ gB8 e k = nI b := by
  unfold gB8
  obtain ⟨j, h1, h2⟩ := pk_andE ((((e.toUInt64 >>> (((8 : Int32) * ((7 : Int32) - nI k)).toInt64.toUInt64 &&& Int64.toUInt64 63)).toInt64).toInt32)) (m := 255) 8 (by decide)
  exact ⟨j, h1, h2⟩
theorem gB8_R (e : Int64) (k : Nat) (hk : k < 8) : (((e.toUInt64 >>> (((56 : Int32) - ((8 : Int32) * nI k)).toInt64.toUInt64 &&& Int64.toUInt64 63)).toInt64) &&& (255 : Int64)).toInt32 = gB8 e k := by
  unfold gB8
  have h : (56 : Int32) - ((8 : Int32) * nI k) = (8 : Int32) * ((7 : Int32) - nI k) := by
    rcases (show k = 0 ∨ k = 1 ∨ k = 2 ∨ k = 3 ∨ k = 4 ∨ k = 5 ∨ k = 6 ∨ k = 7 by omega) with rfl | rfl | rfl | rfl | rfl | rfl | rfl | rfl <;> decide
  rw [h, Int64.toInt32_and]
  rfl
/-! what zeros mean -/
theorem bxC_0 (n i : Nat) : bxC (List.replicate n 0) i = 0 := by
  unfold bxC
  rw [show (List.replicate n (0 : Int32)).getD (i / 4) 0 = 0 by rw [List.getD_eq_getElem?_getD, List.getElem?_replicate]; split <;> rfl]
  exact by_0 _
theorem bxR_0 (n i : Nat) : bxR (List.replicate n 0) i = 0 := by
  unfold bxR
  rw [show (List.replicate n (0 : Int32)).getD (i / 4) 0 = 0 by rw [List.getD_eq_getElem?_getD, List.getElem?_replicate]; split <;> rfl]
  exact by_0 _
theorem zo_ao_new {bx : List Int32 → Nat → Int32} (hbx : ∀ n i, bx (List.replicate n 0) i = 0) {os : List Ob_} {o : Ob_} (hB : oB o = List.replicate (bW_ (oH o)) 0) : zo_ao bx os o = gNew (zv_ os (oC o)) (oH o) := by
  unfold zo_ao gNew zo_slots
  by_cases c : oH o % 2 = 1
  · rw [if_pos c, if_pos c, if_pos c, if_pos c, hB]
    have : (List.range (oH o / 2)).map (bx (List.replicate (bW_ (oH o)) 0)) = List.replicate (oH o / 2) 0 := by
      refine List.eq_replicate_iff.mpr ⟨by rw [List.length_map, List.length_range], fun b hb => ?_⟩
      obtain ⟨i, -, e⟩ := List.mem_map.mp hb
      rw [← e]
      exact hbx _ i
    rw [this]
    rfl
  · rw [if_neg c, if_neg c, if_neg c, if_neg c, hB]
    have h0 : zv_ os 0 = .inl 0 := zv_n (Or.inl rfl)
    rw [List.map_replicate, h0]
    unfold bW_
    rw [if_neg c]
/-- bytes of a body in which a word is changed -/
theorem bx_set {bx : List Int32 → Nat → Int32} {sh : Nat → Nat} (hbx : ∀ l i, bx l i = by_ (l.getD (i / 4) 0) (sh (i % 4))) (hsh : ∀ a b, a < 4 → b < 4 → (sh a = sh b ↔ a = b) ∧ sh a ≤ 24 ∧ (sh a = sh b ∨ sh a + 8 ≤ sh b ∨ sh b + 8 ≤ sh a))
    {l : List Int32} {i n b : Nat} {s : Int32} (hb : b < 256) (hn : (n + 3) / 4 = l.length) (hi : i < n) (hs : (s.toBitVec.smod 32).toNat = sh (i % 4)) :
    (List.range n).map (bx (l.set (i / 4) ((l.getD (i / 4) 0 &&& (((255 : Int32) <<< s) ^^^ (-1 : Int32))) ||| (nI b <<< s)))) = ((List.range n).map (bx l)).set i (nI b) := by
  have hl : i / 4 < l.length := by omega
  apply List.ext_getElem?
  intro j
  rw [List.getElem?_map, List.getElem?_set, List.length_map, List.length_range, List.getElem?_map]
  by_cases hj : j < n
  · rw [List.getElem?_range hj]
    simp only [Option.map_some]
    rw [hbx, hbx]
    have h1 := hsh (i % 4) (j % 4) (by omega) (by omega)
    have h2 := hsh (j % 4) (j % 4) (by omega) (by omega)
    by_cases c : i / 4 = j / 4
    · rw [show (l.set (i / 4) ((l.getD (i / 4) 0 &&& (((255 : Int32) <<< s) ^^^ (-1 : Int32))) ||| (nI b <<< s))).getD (j / 4) 0 = (l.getD (i / 4) 0 &&& (((255 : Int32) <<< s) ^^^ (-1 : Int32))) ||| (nI b <<< s) by
        rw [List.getD_eq_getElem?_getD, ← c, List.getElem?_set_self hl]; rfl]
      rw [by_set _ _ _ _ _ hb hs h1.2.1 h2.2.1 h1.2.2]
      by_cases c2 : i = j
      · subst c2
        simp [hi]
      · rw [if_neg (fun q => c2 (by have := h1.1.mp q; omega)), if_neg c2, c]
    · rw [show (l.set (i / 4) ((l.getD (i / 4) 0 &&& (((255 : Int32) <<< s) ^^^ (-1 : Int32))) ||| (nI b <<< s))).getD (j / 4) 0 = l.getD (j / 4) 0 by
        rw [List.getD_eq_getElem?_getD, List.getElem?_set_ne c, List.getD_eq_getElem?_getD]]
      rw [if_neg (fun q => c (by rw [q]))]
  · rw [List.getElem?_eq_none (by simp; omega)]
    by_cases c2 : i = j
    · omega
    · rw [if_neg c2]
      rfl

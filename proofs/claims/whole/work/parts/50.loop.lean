set_option maxHeartbeats 4000000 in
set_option maxRecDepth 100000 in
theorem sim_loop {nW nE L : Nat} {xs : Nat → Int32} (hE : nE ≤ 8192) (hW : nW ≤ 65536) (hLL : L ≤ 2562) :
    ∀ (n j : Nat) (G : G_) (R f : Nat → Int32) (us : Int32) (P S : Nat → Int32) (sc li : Int32) (rc : Nat → Int32) (rn : Int32) (ro : Nat → Int32) (rd st mcd mwd men : Int32) (mR mI mC mY mZ mF : Nat → Int32) (mmd mhi : Int32) (mL mN : Nat → Int32) (mfr : Int32) (mX mT : Nat → Int32) (mct mtk : Int32) (ot : Nat → Int64),
      n + j = 512 → c_rep nW nE (j * 4001) G R f us P S sc li ro rd st → r_rep nW nE G mwd men mR mI mC mY mZ mF mmd mhi mL mN mfr →
      wqL_law_43 nW nE L xs (n + 1) (nI (2 + 5 * j)) R f us P S sc li rc rn ro rd st mcd mwd men mR mI mC mY mZ mF mmd mhi mL mN mfr mX mT mct mtk ot := by
  intro n
  induction n with
  | zero =>
    intro j G R f us P S sc li rc rn ro rd st mcd mwd men mR mI mC mY mZ mF mmd mhi mL mN mfr mX mT mct mtk ot hj hc hr
    unfold wqL_law_43
    refine ⟨fun _ => trivial, fun z => absurd ?_ z⟩
    rw [Int32.lt_iff_toInt_lt, show (5 : Int32) = nI 5 from rfl, pk_sub_toInt (by omega) (by omega), nI_toInt (by omega)]
    omega
  | succ n ih =>
    intro j G R f us P S sc li rc rn ro rd st mcd mwd men mR mI mC mY mZ mF mmd mhi mL mN mfr mX mT mct mtk ot hj hc hr
    have e5 : nI (2 + 5 * j) + (5 : Int32) = nI (2 + 5 * (j + 1)) := by
      rw [show (5 : Int32) = nI 5 from rfl, nI_add]
      congr 1
    have hroom := c_room hE hc
    have hsort := c_sorted hE hc
    have hlast := c_last hc
    have hj2 : j ≤ 512 := by omega
    have hK : j * 4001 + 1 < 2 ^ 31 := by omega
    have hK4 : j * 4001 + 4001 < 2 ^ 31 := by omega
    have hL0 : G.2.2 < 2 ^ 31 := by omega
    have hL1 : G.2.2 + 1 < 2 ^ 31 := by omega
    have hL4 : G.2.2 + 4001 < 2 ^ 31 := by omega
    rw [wqL_law_43.eq_2]
    refine ⟨fun _ => trivial, fun hin => ?_⟩
    have hin2 : 2 + 5 * j + 5 ≤ L := by
      rw [Int32.lt_iff_toInt_lt, show (5 : Int32) = nI 5 from rfl, pk_sub_toInt (by omega) (by omega), nI_toInt (by omega)] at hin
      omega
    have v0 : vp_in (nI (2 + 5 * j)) L := vp_in_nI (by omega) (by omega)
    have v1 : vp_in (nI (2 + 5 * j) + (1 : Int32)) L := by rw [zi_1]; exact vp_in_nI (by omega) (by omega)
    have v2 : vp_in (nI (2 + 5 * j) + (2 : Int32)) L := by rw [zi_2]; exact vp_in_nI (by omega) (by omega)
    have v3 : vp_in (nI (2 + 5 * j) + (3 : Int32)) L := by rw [zi_3]; exact vp_in_nI (by omega) (by omega)
    have v4 : vp_in (nI (2 + 5 * j) + (4 : Int32)) L := by rw [zi_4]; exact vp_in_nI (by omega) (by omega)
    have next : ∀ (G : G_) (R f : Nat → Int32) (us : Int32) (P S : Nat → Int32) (sc li : Int32) (rc : Nat → Int32) (rn : Int32) (ro : Nat → Int32) (rd st mcd mwd men : Int32) (mR mI mC mY mZ mF : Nat → Int32) (mmd mhi : Int32) (mL mN : Nat → Int32) (mfr : Int32) (mX mT : Nat → Int32) (mct mtk : Int32) {ot : Nat → Int64},
        c_rep nW nE (j * 4001 + 4001) G R f us P S sc li ro rd st → r_rep nW nE G mwd men mR mI mC mY mZ mF mmd mhi mL mN mfr →
        wqL_law_43 nW nE L xs (n + 1) (nI (2 + 5 * j) + (5 : Int32)) R f us P S sc li rc rn ro rd st mcd mwd men mR mI mC mY mZ mF mmd mhi mL mN mfr mX mT mct mtk ot := by
      intro G R f us P S sc li rc rn ro rd st mcd mwd men mR mI mC mY mZ mF mmd mhi mL mN mfr mX mT mct mtk ot hc hr
      rw [e5]
      refine ih (j + 1) G R f us P S sc li rc rn ro rd st mcd mwd men mR mI mC mY mZ mF mmd mhi mL mN mfr mX mT mct mtk ot (by omega) ?_ hr
      rw [show (j + 1) * 4001 = j * 4001 + 4001 by omega]
      exact hc
    clear ih
    refine ⟨v0, ?_⟩
    refine ⟨?_, ?_, ?_, ?_, ?_, ?_, ?_, ?_, ?_, ?_, ?_, ?_, ?_, ?_, ?_, ?_, ?_, ?_, ?_, ?_, ?_, ?_, ?_, ?_⟩
    · intro _
      obtain ⟨c, G', hA⟩ := ex_number G _ _
      refine ⟨v1, v2, cL_number hE hc hA ?_⟩
      intro R' st' hc'
      refine ⟨v1, v2, rR_number  hr hA ?_⟩
      intro mR' hr'
      exact ⟨fun _ => next _ _ _ _ _ _ _ _ _ _ _ _ _ _ _ _ _ _ _ _ _ _ _ _ _ _ _ _ _ _ _ (hc'.mono (by omega)) hr', fun z => absurd rfl z⟩
    · intro _
      obtain ⟨c, G', hA⟩ := ex_move G _ _
      refine ⟨v1, v2, cL_move hE hc hA ?_⟩
      intro R' st' hc'
      refine ⟨v1, v2, rR_move  hr hA ?_⟩
      intro mR' hr'
      exact ⟨fun _ => next _ _ _ _ _ _ _ _ _ _ _ _ _ _ _ _ _ _ _ _ _ _ _ _ _ _ _ _ _ _ _ (hc'.mono (by omega)) hr', fun z => absurd rfl z⟩
    · intro _
      obtain ⟨c, G', hA⟩ := ex_clear G _
      refine ⟨v1, cL_clear hE hc hA ?_⟩
      intro R' st' hc'
      refine ⟨v1, rR_clear  hr hA ?_⟩
      intro mR' hr'
      exact ⟨fun _ => next _ _ _ _ _ _ _ _ _ _ _ _ _ _ _ _ _ _ _ _ _ _ _ _ _ _ _ _ _ _ _ (hc'.mono (by omega)) hr', fun z => absurd rfl z⟩
    · intro _
      refine ⟨v1, v2, v3, v4, fun h4 => ?_, fun h4 => ?_⟩
      · obtain ⟨c, o_, G', hA⟩ := ex_make nW nE G _ _ _ (0 : Int32)
        refine cL_make hE hW hK hc hA ?_
        intro R' f' us' P' S' sc' li' rc' rn' ro' rd' st' ot' hot hc'
        refine ⟨v1, v2, v3, v4, fun _ => ?_, fun z => absurd h4 z⟩
        refine rR_make hE hW hL1 hroom hr hA ?_
        intro b mR' mI' mC' mY' mZ' mF' mmd' mhi' mL' mN' mfr' mX' mT' mct' mtk' hb hr'
        exact ⟨fun _ => ⟨fun hz => ⟨vp01, fun _ => next _ _ _ _ _ _ _ _ _ _ _ _ _ _ _ _ _ _ _ _ _ _ _ _ _ _ _ _ _ _ _ (hc'.mono (by omega)) hr', fun z => absurd (lgz (hot hz) (hb hz)) z⟩, fun _ => next _ _ _ _ _ _ _ _ _ _ _ _ _ _ _ _ _ _ _ _ _ _ _ _ _ _ _ _ _ _ _ (hc'.mono (by omega)) hr'⟩, fun z => absurd rfl z⟩
      · obtain ⟨c, o_, G', hA⟩ := ex_make nW nE G _ _ _ (1 : Int32)
        refine cL_make hE hW hK hc hA ?_
        intro R' f' us' P' S' sc' li' rc' rn' ro' rd' st' ot' hot hc'
        refine ⟨v1, v2, v3, v4, fun z => absurd z h4, fun _ => ?_⟩
        refine rR_make hE hW hL1 hroom hr hA ?_
        intro b mR' mI' mC' mY' mZ' mF' mmd' mhi' mL' mN' mfr' mX' mT' mct' mtk' hb hr'
        exact ⟨fun _ => ⟨fun hz => ⟨vp01, fun _ => next _ _ _ _ _ _ _ _ _ _ _ _ _ _ _ _ _ _ _ _ _ _ _ _ _ _ _ _ _ _ _ (hc'.mono (by omega)) hr', fun z => absurd (lgz (hot hz) (hb hz)) z⟩, fun _ => next _ _ _ _ _ _ _ _ _ _ _ _ _ _ _ _ _ _ _ _ _ _ _ _ _ _ _ _ _ _ _ (hc'.mono (by omega)) hr'⟩, fun z => absurd rfl z⟩
    · intro _
      obtain ⟨c, o_, G', hA⟩ := ex_copy nW nE G _ _
      refine ⟨v1, v2, cL_copy hE hW hK hc hA ?_⟩
      intro R' f' us' P' S' sc' li' rc' rn' ro' rd' st' ot' hot hc'
      refine ⟨v1, v2, rR_copy hE hW hL1 hroom hr hA ?_⟩
      intro b mR' mI' mC' mY' mZ' mF' mmd' mhi' mL' mN' mfr' mX' mT' mct' mtk' hb hr'
      exact ⟨fun _ => ⟨fun hz => ⟨vp01, fun _ => next _ _ _ _ _ _ _ _ _ _ _ _ _ _ _ _ _ _ _ _ _ _ _ _ _ _ _ _ _ _ _ (hc'.mono (by omega)) hr', fun z => absurd (lgz (hot hz) (hb hz)) z⟩, fun _ => next _ _ _ _ _ _ _ _ _ _ _ _ _ _ _ _ _ _ _ _ _ _ _ _ _ _ _ _ _ _ _ (hc'.mono (by omega)) hr'⟩, fun z => absurd rfl z⟩
    · intro _
      obtain ⟨c, o_, G', hA⟩ := ex_chain nW nE G _ _ _ _
      refine ⟨v1, v2, v3, v4, cL_chain hE hW hK4 hc hA ?_⟩
      intro R' f' us' P' S' sc' li' rc' rn' ro' rd' st' ot' hot hc'
      refine ⟨v1, v2, v3, v4, rR_chain hE hW hL4 hroom hr hA ?_⟩
      intro b mR' mI' mC' mY' mZ' mF' mmd' mhi' mL' mN' mfr' mX' mT' mct' mtk' hb hr'
      exact ⟨fun _ => ⟨fun hz => ⟨vp01, fun _ => next _ _ _ _ _ _ _ _ _ _ _ _ _ _ _ _ _ _ _ _ _ _ _ _ _ _ _ _ _ _ _ (hc'.mono (by omega)) hr', fun z => absurd (lgz (hot hz) (hb hz)) z⟩, fun _ => next _ _ _ _ _ _ _ _ _ _ _ _ _ _ _ _ _ _ _ _ _ _ _ _ _ _ _ _ _ _ _ (hc'.mono (by omega)) hr'⟩, fun z => absurd rfl z⟩
    · intro _
      obtain ⟨c, G', hA⟩ := ex_get G _ _ _
      refine ⟨v1, v2, v3, cL_get hE hW hc hA ?_⟩
      intro R' st' hc'
      refine ⟨v1, v2, v3, rR_get hE hW hr hA ?_⟩
      intro mR' hr'
      exact ⟨fun _ => next _ _ _ _ _ _ _ _ _ _ _ _ _ _ _ _ _ _ _ _ _ _ _ _ _ _ _ _ _ _ _ (hc'.mono (by omega)) hr', fun z => absurd rfl z⟩
    · intro _
      obtain ⟨c, G', hA⟩ := ex_put G _ _ _
      refine ⟨v1, v2, v3, cL_put hE hW hc hA ?_⟩
      intro f' st' hc'
      refine ⟨v1, v2, v3, rR_put hE hW hr hA ?_⟩
      intro mL' hr'
      exact ⟨fun _ => next _ _ _ _ _ _ _ _ _ _ _ _ _ _ _ _ _ _ _ _ _ _ _ _ _ _ _ _ _ _ _ (hc'.mono (by omega)) hr', fun z => absurd rfl z⟩
    · intro _
      obtain ⟨c, o_, G', hA⟩ := ex_walk G _ _ _
      refine ⟨v1, v2, v3, cL_walk hE hW hc hA ?_⟩
      intro R' st' ot' hot hc'
      refine ⟨v1, v2, v3, rR_walk hE hW hr hA ?_⟩
      intro b mR' hb hr'
      exact ⟨fun _ => ⟨fun hz => ⟨vp01, fun _ => next _ _ _ _ _ _ _ _ _ _ _ _ _ _ _ _ _ _ _ _ _ _ _ _ _ _ _ _ _ _ _ (hc'.mono (by omega)) hr', fun z => absurd (lgz (hot hz) (hb hz)) z⟩, fun _ => next _ _ _ _ _ _ _ _ _ _ _ _ _ _ _ _ _ _ _ _ _ _ _ _ _ _ _ _ _ _ _ (hc'.mono (by omega)) hr'⟩, fun z => absurd rfl z⟩
    · intro _
      obtain ⟨c, G', hA⟩ := ex_classOf G _ _
      refine ⟨v1, v2, cL_classOf hE hW hc hA ?_⟩
      intro R' st' hc'
      refine ⟨v1, v2, rR_classOf hE hr hA ?_⟩
      intro mR' hr'
      exact ⟨fun _ => next _ _ _ _ _ _ _ _ _ _ _ _ _ _ _ _ _ _ _ _ _ _ _ _ _ _ _ _ _ _ _ (hc'.mono (by omega)) hr', fun z => absurd rfl z⟩
    · intro _
      obtain ⟨c, G', hA⟩ := ex_setClass G _ _
      refine ⟨v1, v2, cL_setClass hE hW hc hA ?_⟩
      intro f' st' hc'
      refine ⟨v1, v2, rR_setClass hE hr hA ?_⟩
      intro mC' hr'
      exact ⟨fun _ => next _ _ _ _ _ _ _ _ _ _ _ _ _ _ _ _ _ _ _ _ _ _ _ _ _ _ _ _ _ _ _ (hc'.mono (by omega)) hr', fun z => absurd rfl z⟩
    · intro _
      obtain ⟨c, o_, G', hA⟩ := ex_byteAt G _ _
      refine ⟨v1, v2, cL_byteAt hE hW hc hA ?_⟩
      intro  ot' hot hc'
      refine ⟨v1, v2, rR_byteAt hE hW hr hA ?_⟩
      intro b  hb hr'
      exact ⟨fun _ => ⟨fun hz => ⟨vp01, fun _ => next _ _ _ _ _ _ _ _ _ _ _ _ _ _ _ _ _ _ _ _ _ _ _ _ _ _ _ _ _ _ _ (hc'.mono (by omega)) hr', fun z => absurd (lgz (hot hz) (hb hz)) z⟩, fun _ => next _ _ _ _ _ _ _ _ _ _ _ _ _ _ _ _ _ _ _ _ _ _ _ _ _ _ _ _ _ _ _ (hc'.mono (by omega)) hr'⟩, fun z => absurd rfl z⟩
    · intro _
      obtain ⟨c, G', hA⟩ := ex_bytePut G _ _ _
      refine ⟨v1, v2, v3, v4, cL_bytePut hE hW hc hA ?_⟩
      intro f' hc'
      refine ⟨v1, v2, v3, v4, rR_bytePut hE hW hr hA ?_⟩
      intro mL' hr'
      exact ⟨fun _ => next _ _ _ _ _ _ _ _ _ _ _ _ _ _ _ _ _ _ _ _ _ _ _ _ _ _ _ _ _ _ _ (hc'.mono (by omega)) hr', fun z => absurd rfl z⟩
    · intro _
      obtain ⟨c, o_, G', hA⟩ := ex_kind G _
      refine ⟨v1, cL_kind hE hW hc hA ?_⟩
      intro  ot' hot hc'
      refine ⟨v1, rR_kind hE hr hA ?_⟩
      intro b  hb hr'
      exact ⟨fun _ => ⟨fun hz => ⟨vp01, fun _ => next _ _ _ _ _ _ _ _ _ _ _ _ _ _ _ _ _ _ _ _ _ _ _ _ _ _ _ _ _ _ _ (hc'.mono (by omega)) hr', fun z => absurd (lgz (hot hz) (hb hz)) z⟩, fun _ => next _ _ _ _ _ _ _ _ _ _ _ _ _ _ _ _ _ _ _ _ _ _ _ _ _ _ _ _ _ _ _ (hc'.mono (by omega)) hr'⟩, fun z => absurd rfl z⟩
    · intro _
      obtain ⟨c, o_, G', hA⟩ := ex_value G _
      refine ⟨v1, cL_value hE hW hc hA ?_⟩
      intro  ot' hot hc'
      refine ⟨v1, rR_value hE hr hA ?_⟩
      intro b  hb hr'
      exact ⟨fun _ => ⟨fun hz => ⟨vp01, fun _ => next _ _ _ _ _ _ _ _ _ _ _ _ _ _ _ _ _ _ _ _ _ _ _ _ _ _ _ _ _ _ _ (hc'.mono (by omega)) hr', fun z => absurd (lgz (hot hz) (hb hz)) z⟩, fun _ => next _ _ _ _ _ _ _ _ _ _ _ _ _ _ _ _ _ _ _ _ _ _ _ _ _ _ _ _ _ _ _ (hc'.mono (by omega)) hr'⟩, fun z => absurd rfl z⟩
    · intro _
      obtain ⟨c, o_, G', hA⟩ := ex_size G _
      refine ⟨v1, cL_size hE hW hc hA ?_⟩
      intro  ot' hot hc'
      refine ⟨v1, rR_size hE hr hA ?_⟩
      intro b  hb hr'
      exact ⟨fun _ => ⟨fun hz => ⟨vp01, fun _ => next _ _ _ _ _ _ _ _ _ _ _ _ _ _ _ _ _ _ _ _ _ _ _ _ _ _ _ _ _ _ _ (hc'.mono (by omega)) hr', fun z => absurd (lgz (hot hz) (hb hz)) z⟩, fun _ => next _ _ _ _ _ _ _ _ _ _ _ _ _ _ _ _ _ _ _ _ _ _ _ _ _ _ _ _ _ _ _ (hc'.mono (by omega)) hr'⟩, fun z => absurd rfl z⟩
    · intro _
      obtain ⟨c, G', hA⟩ := ex_become G _ _
      refine ⟨v1, v2, cL_become hE hW hc hA ?_⟩
      intro f' P' hc'
      refine ⟨v1, v2, rR_become hE hr hA ?_⟩
      intro mI' mC' mY' mZ' mF' hr'
      exact ⟨fun _ => next _ _ _ _ _ _ _ _ _ _ _ _ _ _ _ _ _ _ _ _ _ _ _ _ _ _ _ _ _ _ _ (hc'.mono (by omega)) hr', fun z => absurd rfl z⟩
    · intro _
      obtain ⟨o_, hA⟩ := ex_words nW nE G hroom
      refine cT_words hE hW hK hc hA ?_
      intro f' us' P' S' sc' rc' rn' ro' rd' st' hc'
      refine rR_words hE hW hroom hr hA ?_
      intro mX' mT' mct' mtk'
      exact ⟨fun _ => next _ _ _ _ _ _ _ _ _ _ _ _ _ _ _ _ _ _ _ _ _ _ _ _ _ _ _ _ _ _ _ (hc'.mono (by omega)) hr, fun z => absurd rfl z⟩
    · intro _
      obtain ⟨o_, hA⟩ := ex_entries nW nE G hroom
      refine cT_entries hE hW hK hc hA ?_
      intro f' us' P' S' sc' rc' rn' ro' rd' st' hc'
      refine rR_entries hE hW hroom hr hA ?_
      intro mX' mT' mct' mtk'
      exact ⟨fun _ => next _ _ _ _ _ _ _ _ _ _ _ _ _ _ _ _ _ _ _ _ _ _ _ _ _ _ _ _ _ _ _ (hc'.mono (by omega)) hr, fun z => absurd rfl z⟩
    · intro _
      obtain ⟨c, o_, G', hA⟩ := ex_instance G _ _ _ hsort
      refine ⟨v1, v2, v3, cL_instance hE hW hK hc hA ?_⟩
      intro R' f' us' P' S' sc' rc' rn' ro' rd' st' ot' hot hc'
      refine ⟨v1, v2, v3, rR_instance hE hW hL0 hr hA ?_⟩
      intro b mR' mX' mT' mct' mtk' hb hr'
      exact ⟨fun _ => ⟨fun hz => ⟨vp01, fun _ => next _ _ _ _ _ _ _ _ _ _ _ _ _ _ _ _ _ _ _ _ _ _ _ _ _ _ _ _ _ _ _ (hc'.mono (by omega)) hr', fun z => absurd (lgz (hot hz) (hb hz)) z⟩, fun _ => next _ _ _ _ _ _ _ _ _ _ _ _ _ _ _ _ _ _ _ _ _ _ _ _ _ _ _ _ _ _ _ (hc'.mono (by omega)) hr'⟩, fun z => absurd rfl z⟩
    · intro _
      obtain ⟨c, o_, G', hA⟩ := ex_owners nW nE G _ hroom
      refine ⟨v1, cL_owners hE hW hK hc hA ?_⟩
      intro f' us' P' S' sc' rc' rn' ro' rd' st' ot' hot hc'
      refine ⟨v1, rR_owners hE hW hr hA ?_⟩
      intro b mX' mT' mct' mtk' hb hr'
      exact ⟨fun _ => ⟨fun hz => ⟨vp01, fun _ => next _ _ _ _ _ _ _ _ _ _ _ _ _ _ _ _ _ _ _ _ _ _ _ _ _ _ _ _ _ _ _ (hc'.mono (by omega)) hr', fun z => absurd (lgz (hot hz) (hb hz)) z⟩, fun _ => next _ _ _ _ _ _ _ _ _ _ _ _ _ _ _ _ _ _ _ _ _ _ _ _ _ _ _ _ _ _ _ (hc'.mono (by omega)) hr'⟩, fun z => absurd rfl z⟩
    · intro _
      obtain ⟨c, o_, G', hA, ho⟩ := ex_reaches G _ _
      refine ⟨v1, v2, cL_reaches hE hW hK hc hA ?_⟩
      intro rc' rn' ro' rd' ot' hot hc'
      refine ⟨v1, v2, rR_reaches hE hW hr hA ?_⟩
      intro b mX' mT' mct' mtk' hb hr'
      refine ⟨fun _ => ⟨fun hz => ⟨vp01, fun q => ⟨fun _ => next _ _ _ _ _ _ _ _ _ _ _ _ _ _ _ _ _ _ _ _ _ _ _ _ _ _ _ _ _ _ _ (hc'.mono (by omega)) hr', fun z => absurd ?_ z⟩, fun q => ⟨fun _ => next _ _ _ _ _ _ _ _ _ _ _ _ _ _ _ _ _ _ _ _ _ _ _ _ _ _ _ _ _ _ _ (hc'.mono (by omega)) hr', fun z => absurd ?_ z⟩⟩, fun _ => next _ _ _ _ _ _ _ _ _ _ _ _ _ _ _ _ _ _ _ _ _ _ _ _ _ _ _ _ _ _ _ (hc'.mono (by omega)) hr'⟩, fun z => absurd rfl z⟩
      · refine (lg_cmp_eq _ _).mpr ?_
        have h0 : ot' 0 = o_.toInt64 := hot hz
        rw [← hb hz, q] at h0
        exact h0
      · refine (lg_cmp_eq _ _).mpr ?_
        have h0 : ot' 0 = o_.toInt64 := hot hz
        rcases ho hz with z1 | z1
        · exact absurd (by rw [hb hz, z1]) q
        · rw [z1] at h0
          exact h0
    · intro _
      obtain ⟨c, o_, G', hA⟩ := ex_sum G _
      refine ⟨v1, cL_sum hE hW hc hA ?_⟩
      intro  ot' hot hc'
      refine ⟨v1, rR_sum hE hW hr hA ?_⟩
      intro b  hb hr'
      exact ⟨fun _ => ⟨fun hz => ⟨vp01, fun _ => next _ _ _ _ _ _ _ _ _ _ _ _ _ _ _ _ _ _ _ _ _ _ _ _ _ _ _ _ _ _ _ (hc'.mono (by omega)) hr', fun z => absurd (lgz (hot hz) (hb hz)) z⟩, fun _ => next _ _ _ _ _ _ _ _ _ _ _ _ _ _ _ _ _ _ _ _ _ _ _ _ _ _ _ _ _ _ _ (hc'.mono (by omega)) hr'⟩, fun z => absurd rfl z⟩
    · intro _
      exact next _ _ _ _ _ _ _ _ _ _ _ _ _ _ _ _ _ _ _ _ _ _ _ _ _ _ _ _ _ _ _ (hc.mono (by omega)) hr

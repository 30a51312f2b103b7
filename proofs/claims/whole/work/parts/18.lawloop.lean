def wqL_law_43 (nW nE L : Nat) (xs : Nat → Int32) : Nat → Int32 → (Nat → Int32) → (Nat → Int32) → Int32 → (Nat → Int32) → (Nat → Int32) → Int32 → Int32 → (Nat → Int32) → Int32 → (Nat → Int32) → Int32 → Int32 → Int32 → Int32 → Int32 → (Nat → Int32) → (Nat → Int32) → (Nat → Int32) → (Nat → Int32) → (Nat → Int32) → (Nat → Int32) → Int32 → Int32 → (Nat → Int32) → (Nat → Int32) → Int32 → (Nat → Int32) → (Nat → Int32) → Int32 → Int32 → (Nat → Int64) → Prop
  | 0, _, _, _, _, _, _, _, _, _, _, _, _, _, _, _, _, _, _, _, _, _, _, _, _, _, _, _, _, _, _, _, _ => False
  | n + 1, x4, R, f, us, P, S, sc, li, rc, rn, ro, rd, st, mcd, mwd, men, mR, mI, mC, mY, mZ, mF, mmd, mhi, mL, mN, mfr, mX, mT, mct, mtk, ot =>
    (((nI L) - (5 : Int32)) < x4 → True) ∧ (¬ (((nI L) - (5 : Int32)) < x4) → (vp_in x4 L ∧ ((((xs x4.toNatClampNeg) &&& (31 : Int32)) = 0 → (vp_in (x4 + (1 : Int32)) L ∧ (vp_in (x4 + (2 : Int32)) L ∧ (wqL_number nW nE R st (xs (x4 + (1 : Int32)).toNatClampNeg) (xs (x4 + (2 : Int32)).toNatClampNeg) (fun r177 R_177 st_177 => vp_in (x4 + (1 : Int32)) L ∧ (vp_in (x4 + (2 : Int32)) L ∧ (wqR_number mcd mR (xs (x4 + (1 : Int32)).toNatClampNeg) (xs (x4 + (2 : Int32)).toNatClampNeg) (fun mcd_195 mR_195 => wqR_thrown mcd_195 (fun r199 => (r199 = r177 → (wqL_law_43 nW nE L xs n (x4 + (5 : Int32)) R_177 f us P S sc li rc rn ro rd st_177 mcd_195 mwd men mR_195 mI mC mY mZ mF mmd mhi mL mN mfr mX mT mct mtk ot)) ∧ (¬ (r199 = r177) → False)))))))))) ∧ (((xs x4.toNatClampNeg) &&& (31 : Int32)) = 1 → (vp_in (x4 + (1 : Int32)) L ∧ (vp_in (x4 + (2 : Int32)) L ∧ (wqL_move nW nE R st (xs (x4 + (1 : Int32)).toNatClampNeg) (xs (x4 + (2 : Int32)).toNatClampNeg) (fun r225 R_225 st_225 => vp_in (x4 + (1 : Int32)) L ∧ (vp_in (x4 + (2 : Int32)) L ∧ (wqR_move mcd mR (xs (x4 + (1 : Int32)).toNatClampNeg) (xs (x4 + (2 : Int32)).toNatClampNeg) (fun mcd_243 mR_243 => wqR_thrown mcd_243 (fun r247 => (r247 = r225 → (wqL_law_43 nW nE L xs n (x4 + (5 : Int32)) R_225 f us P S sc li rc rn ro rd st_225 mcd_243 mwd men mR_243 mI mC mY mZ mF mmd mhi mL mN mfr mX mT mct mtk ot)) ∧ (¬ (r247 = r225) → False)))))))))) ∧ (((xs x4.toNatClampNeg) &&& (31 : Int32)) = 2 → (vp_in (x4 + (1 : Int32)) L ∧ (wqL_clear nW nE R st (xs (x4 + (1 : Int32)).toNatClampNeg) (fun r267 R_267 st_267 => vp_in (x4 + (1 : Int32)) L ∧ (wqR_clear mcd mR (xs (x4 + (1 : Int32)).toNatClampNeg) (fun mcd_279 mR_279 => wqR_thrown mcd_279 (fun r283 => (r283 = r267 → (wqL_law_43 nW nE L xs n (x4 + (5 : Int32)) R_267 f us P S sc li rc rn ro rd st_267 mcd_279 mwd men mR_279 mI mC mY mZ mF mmd mhi mL mN mfr mX mT mct mtk ot)) ∧ (¬ (r283 = r267) → False)))))))) ∧ (((xs x4.toNatClampNeg) &&& (31 : Int32)) = 3 → (vp_in (x4 + (1 : Int32)) L ∧ (vp_in (x4 + (2 : Int32)) L ∧ (vp_in (x4 + (3 : Int32)) L ∧ (vp_in (x4 + (4 : Int32)) L ∧ (((xs (x4 + (4 : Int32)).toNatClampNeg) = 0 → (wqL_make nW nE R f us P S sc li rc rn ro rd st ot (xs (x4 + (1 : Int32)).toNatClampNeg) (xs (x4 + (2 : Int32)).toNatClampNeg) (xs (x4 + (3 : Int32)).toNatClampNeg) (0 : Int32) (fun r330 R_330 f_330 us_330 P_330 S_330 sc_330 li_330 rc_330 rn_330 ro_330 rd_330 st_330 ot_330 => vp_in (x4 + (1 : Int32)) L ∧ (vp_in (x4 + (2 : Int32)) L ∧ (vp_in (x4 + (3 : Int32)) L ∧ (vp_in (x4 + (4 : Int32)) L ∧ (((xs (x4 + (4 : Int32)).toNatClampNeg) = 0 → (wqR_make mcd mwd men mR mI mC mY mZ mF mmd mhi mL mN mfr mX mT mct mtk (xs (x4 + (1 : Int32)).toNatClampNeg) (xs (x4 + (2 : Int32)).toNatClampNeg) (xs (x4 + (3 : Int32)).toNatClampNeg) (0 : Int32) (fun r368 mcd_368 mR_368 mI_368 mC_368 mY_368 mZ_368 mF_368 mmd_368 mhi_368 mL_368 mN_368 mfr_368 mX_368 mT_368 mct_368 mtk_368 => wqR_thrown mcd_368 (fun r374 => (r374 = r330 → ((r330 = 0 → (vp_in (0 : Int32) 1 ∧ (((lg_cmp (ot_330 (0 : Int32).toNatClampNeg) r368.toInt64) = 0 → (wqL_law_43 nW nE L xs n (x4 + (5 : Int32)) R_330 f_330 us_330 P_330 S_330 sc_330 li_330 rc_330 rn_330 ro_330 rd_330 st_330 mcd_368 mwd men mR_368 mI_368 mC_368 mY_368 mZ_368 mF_368 mmd_368 mhi_368 mL_368 mN_368 mfr_368 mX_368 mT_368 mct_368 mtk_368 ot_330)) ∧ (¬ ((lg_cmp (ot_330 (0 : Int32).toNatClampNeg) r368.toInt64) = 0) → False)))) ∧ (¬ (r330 = 0) → (wqL_law_43 nW nE L xs n (x4 + (5 : Int32)) R_330 f_330 us_330 P_330 S_330 sc_330 li_330 rc_330 rn_330 ro_330 rd_330 st_330 mcd_368 mwd men mR_368 mI_368 mC_368 mY_368 mZ_368 mF_368 mmd_368 mhi_368 mL_368 mN_368 mfr_368 mX_368 mT_368 mct_368 mtk_368 ot_330)))) ∧ (¬ (r374 = r330) → False))))) ∧ (¬ ((xs (x4 + (4 : Int32)).toNatClampNeg) = 0) → (wqR_make mcd mwd men mR mI mC mY mZ mF mmd mhi mL mN mfr mX mT mct mtk (xs (x4 + (1 : Int32)).toNatClampNeg) (xs (x4 + (2 : Int32)).toNatClampNeg) (xs (x4 + (3 : Int32)).toNatClampNeg) (1 : Int32) (fun r368 mcd_368 mR_368 mI_368 mC_368 mY_368 mZ_368 mF_368 mmd_368 mhi_368 mL_368 mN_368 mfr_368 mX_368 mT_368 mct_368 mtk_368 => wqR_thrown mcd_368 (fun r374 => (r374 = r330 → ((r330 = 0 → (vp_in (0 : Int32) 1 ∧ (((lg_cmp (ot_330 (0 : Int32).toNatClampNeg) r368.toInt64) = 0 → (wqL_law_43 nW nE L xs n (x4 + (5 : Int32)) R_330 f_330 us_330 P_330 S_330 sc_330 li_330 rc_330 rn_330 ro_330 rd_330 st_330 mcd_368 mwd men mR_368 mI_368 mC_368 mY_368 mZ_368 mF_368 mmd_368 mhi_368 mL_368 mN_368 mfr_368 mX_368 mT_368 mct_368 mtk_368 ot_330)) ∧ (¬ ((lg_cmp (ot_330 (0 : Int32).toNatClampNeg) r368.toInt64) = 0) → False)))) ∧ (¬ (r330 = 0) → (wqL_law_43 nW nE L xs n (x4 + (5 : Int32)) R_330 f_330 us_330 P_330 S_330 sc_330 li_330 rc_330 rn_330 ro_330 rd_330 st_330 mcd_368 mwd men mR_368 mI_368 mC_368 mY_368 mZ_368 mF_368 mmd_368 mhi_368 mL_368 mN_368 mfr_368 mX_368 mT_368 mct_368 mtk_368 ot_330)))) ∧ (¬ (r374 = r330) → False)))))))))))) ∧ (¬ ((xs (x4 + (4 : Int32)).toNatClampNeg) = 0) → (wqL_make nW nE R f us P S sc li rc rn ro rd st ot (xs (x4 + (1 : Int32)).toNatClampNeg) (xs (x4 + (2 : Int32)).toNatClampNeg) (xs (x4 + (3 : Int32)).toNatClampNeg) (1 : Int32) (fun r330 R_330 f_330 us_330 P_330 S_330 sc_330 li_330 rc_330 rn_330 ro_330 rd_330 st_330 ot_330 => vp_in (x4 + (1 : Int32)) L ∧ (vp_in (x4 + (2 : Int32)) L ∧ (vp_in (x4 + (3 : Int32)) L ∧ (vp_in (x4 + (4 : Int32)) L ∧ (((xs (x4 + (4 : Int32)).toNatClampNeg) = 0 → (wqR_make mcd mwd men mR mI mC mY mZ mF mmd mhi mL mN mfr mX mT mct mtk (xs (x4 + (1 : Int32)).toNatClampNeg) (xs (x4 + (2 : Int32)).toNatClampNeg) (xs (x4 + (3 : Int32)).toNatClampNeg) (0 : Int32) (fun r368 mcd_368 mR_368 mI_368 mC_368 mY_368 mZ_368 mF_368 mmd_368 mhi_368 mL_368 mN_368 mfr_368 mX_368 mT_368 mct_368 mtk_368 => wqR_thrown mcd_368 (fun r374 => (r374 = r330 → ((r330 = 0 → (vp_in (0 : Int32) 1 ∧ (((lg_cmp (ot_330 (0 : Int32).toNatClampNeg) r368.toInt64) = 0 → (wqL_law_43 nW nE L xs n (x4 + (5 : Int32)) R_330 f_330 us_330 P_330 S_330 sc_330 li_330 rc_330 rn_330 ro_330 rd_330 st_330 mcd_368 mwd men mR_368 mI_368 mC_368 mY_368 mZ_368 mF_368 mmd_368 mhi_368 mL_368 mN_368 mfr_368 mX_368 mT_368 mct_368 mtk_368 ot_330)) ∧ (¬ ((lg_cmp (ot_330 (0 : Int32).toNatClampNeg) r368.toInt64) = 0) → False)))) ∧ (¬ (r330 = 0) → (wqL_law_43 nW nE L xs n (x4 + (5 : Int32)) R_330 f_330 us_330 P_330 S_330 sc_330 li_330 rc_330 rn_330 ro_330 rd_330 st_330 mcd_368 mwd men mR_368 mI_368 mC_368 mY_368 mZ_368 mF_368 mmd_368 mhi_368 mL_368 mN_368 mfr_368 mX_368 mT_368 mct_368 mtk_368 ot_330)))) ∧ (¬ (r374 = r330) → False))))) ∧ (¬ ((xs (x4 + (4 : Int32)).toNatClampNeg) = 0) → (wqR_make mcd mwd men mR mI mC mY mZ mF mmd mhi mL mN mfr mX mT mct mtk (xs (x4 + (1 : Int32)).toNatClampNeg) (xs (x4 + (2 : Int32)).toNatClampNeg) (xs (x4 + (3 : Int32)).toNatClampNeg) (1 : Int32) (fun r368 mcd_368 mR_368 mI_368 mC_368 mY_368 mZ_368 mF_368 mmd_368 mhi_368 mL_368 mN_368 mfr_368 mX_368 mT_368 mct_368 mtk_368 => wqR_thrown mcd_368 (fun r374 => (r374 = r330 → ((r330 = 0 → (vp_in (0 : Int32) 1 ∧ (((lg_cmp (ot_330 (0 : Int32).toNatClampNeg) r368.toInt64) = 0 → (wqL_law_43 nW nE L xs n (x4 + (5 : Int32)) R_330 f_330 us_330 P_330 S_330 sc_330 li_330 rc_330 rn_330 ro_330 rd_330 st_330 mcd_368 mwd men mR_368 mI_368 mC_368 mY_368 mZ_368 mF_368 mmd_368 mhi_368 mL_368 mN_368 mfr_368 mX_368 mT_368 mct_368 mtk_368 ot_330)) ∧ (¬ ((lg_cmp (ot_330 (0 : Int32).toNatClampNeg) r368.toInt64) = 0) → False)))) ∧ (¬ (r330 = 0) → (wqL_law_43 nW nE L xs n (x4 + (5 : Int32)) R_330 f_330 us_330 P_330 S_330 sc_330 li_330 rc_330 rn_330 ro_330 rd_330 st_330 mcd_368 mwd men mR_368 mI_368 mC_368 mY_368 mZ_368 mF_368 mmd_368 mhi_368 mL_368 mN_368 mfr_368 mX_368 mT_368 mct_368 mtk_368 ot_330)))) ∧ (¬ (r374 = r330) → False)))))))))))))))))) ∧ (((xs x4.toNatClampNeg) &&& (31 : Int32)) = 4 → (vp_in (x4 + (1 : Int32)) L ∧ (vp_in (x4 + (2 : Int32)) L ∧ (wqL_copy nW nE R f us P S sc li rc rn ro rd st ot (xs (x4 + (1 : Int32)).toNatClampNeg) (xs (x4 + (2 : Int32)).toNatClampNeg) (fun r418 R_418 f_418 us_418 P_418 S_418 sc_418 li_418 rc_418 rn_418 ro_418 rd_418 st_418 ot_418 => vp_in (x4 + (1 : Int32)) L ∧ (vp_in (x4 + (2 : Int32)) L ∧ (wqR_copy mcd mwd men mR mI mC mY mZ mF mmd mhi mL mN mfr mX mT mct mtk (xs (x4 + (1 : Int32)).toNatClampNeg) (xs (x4 + (2 : Int32)).toNatClampNeg) (fun r436 mcd_436 mR_436 mI_436 mC_436 mY_436 mZ_436 mF_436 mmd_436 mhi_436 mL_436 mN_436 mfr_436 mX_436 mT_436 mct_436 mtk_436 => wqR_thrown mcd_436 (fun r442 => (r442 = r418 → ((r418 = 0 → (vp_in (0 : Int32) 1 ∧ (((lg_cmp (ot_418 (0 : Int32).toNatClampNeg) r436.toInt64) = 0 → (wqL_law_43 nW nE L xs n (x4 + (5 : Int32)) R_418 f_418 us_418 P_418 S_418 sc_418 li_418 rc_418 rn_418 ro_418 rd_418 st_418 mcd_436 mwd men mR_436 mI_436 mC_436 mY_436 mZ_436 mF_436 mmd_436 mhi_436 mL_436 mN_436 mfr_436 mX_436 mT_436 mct_436 mtk_436 ot_418)) ∧ (¬ ((lg_cmp (ot_418 (0 : Int32).toNatClampNeg) r436.toInt64) = 0) → False)))) ∧ (¬ (r418 = 0) → (wqL_law_43 nW nE L xs n (x4 + (5 : Int32)) R_418 f_418 us_418 P_418 S_418 sc_418 li_418 rc_418 rn_418 ro_418 rd_418 st_418 mcd_436 mwd men mR_436 mI_436 mC_436 mY_436 mZ_436 mF_436 mmd_436 mhi_436 mL_436 mN_436 mfr_436 mX_436 mT_436 mct_436 mtk_436 ot_418)))) ∧ (¬ (r442 = r418) → False)))))))))) ∧ (((xs x4.toNatClampNeg) &&& (31 : Int32)) = 5 → (vp_in (x4 + (1 : Int32)) L ∧ (vp_in (x4 + (2 : Int32)) L ∧ (vp_in (x4 + (3 : Int32)) L ∧ (vp_in (x4 + (4 : Int32)) L ∧ (wqL_chain nW nE R f us P S sc li rc rn ro rd st ot (xs (x4 + (1 : Int32)).toNatClampNeg) (xs (x4 + (2 : Int32)).toNatClampNeg) (xs (x4 + (3 : Int32)).toNatClampNeg) (xs (x4 + (4 : Int32)).toNatClampNeg) (fun r498 R_498 f_498 us_498 P_498 S_498 sc_498 li_498 rc_498 rn_498 ro_498 rd_498 st_498 ot_498 => vp_in (x4 + (1 : Int32)) L ∧ (vp_in (x4 + (2 : Int32)) L ∧ (vp_in (x4 + (3 : Int32)) L ∧ (vp_in (x4 + (4 : Int32)) L ∧ (wqR_chain mcd mwd men mR mI mC mY mZ mF mmd mhi mL mN mfr mX mT mct mtk (xs (x4 + (1 : Int32)).toNatClampNeg) (xs (x4 + (2 : Int32)).toNatClampNeg) (xs (x4 + (3 : Int32)).toNatClampNeg) (xs (x4 + (4 : Int32)).toNatClampNeg) (fun r528 mcd_528 mR_528 mI_528 mC_528 mY_528 mZ_528 mF_528 mmd_528 mhi_528 mL_528 mN_528 mfr_528 mX_528 mT_528 mct_528 mtk_528 => wqR_thrown mcd_528 (fun r534 => (r534 = r498 → ((r498 = 0 → (vp_in (0 : Int32) 1 ∧ (((lg_cmp (ot_498 (0 : Int32).toNatClampNeg) r528.toInt64) = 0 → (wqL_law_43 nW nE L xs n (x4 + (5 : Int32)) R_498 f_498 us_498 P_498 S_498 sc_498 li_498 rc_498 rn_498 ro_498 rd_498 st_498 mcd_528 mwd men mR_528 mI_528 mC_528 mY_528 mZ_528 mF_528 mmd_528 mhi_528 mL_528 mN_528 mfr_528 mX_528 mT_528 mct_528 mtk_528 ot_498)) ∧ (¬ ((lg_cmp (ot_498 (0 : Int32).toNatClampNeg) r528.toInt64) = 0) → False)))) ∧ (¬ (r498 = 0) → (wqL_law_43 nW nE L xs n (x4 + (5 : Int32)) R_498 f_498 us_498 P_498 S_498 sc_498 li_498 rc_498 rn_498 ro_498 rd_498 st_498 mcd_528 mwd men mR_528 mI_528 mC_528 mY_528 mZ_528 mF_528 mmd_528 mhi_528 mL_528 mN_528 mfr_528 mX_528 mT_528 mct_528 mtk_528 ot_498)))) ∧ (¬ (r534 = r498) → False)))))))))))))) ∧ (((xs x4.toNatClampNeg) &&& (31 : Int32)) = 6 → (vp_in (x4 + (1 : Int32)) L ∧ (vp_in (x4 + (2 : Int32)) L ∧ (vp_in (x4 + (3 : Int32)) L ∧ (wqL_get nW nE R f P st (xs (x4 + (1 : Int32)).toNatClampNeg) (xs (x4 + (2 : Int32)).toNatClampNeg) (xs (x4 + (3 : Int32)).toNatClampNeg) (fun r583 R_583 st_583 => vp_in (x4 + (1 : Int32)) L ∧ (vp_in (x4 + (2 : Int32)) L ∧ (vp_in (x4 + (3 : Int32)) L ∧ (wqR_get mcd mR mY mZ mF mL mN (xs (x4 + (1 : Int32)).toNatClampNeg) (xs (x4 + (2 : Int32)).toNatClampNeg) (xs (x4 + (3 : Int32)).toNatClampNeg) (fun mcd_607 mR_607 => wqR_thrown mcd_607 (fun r611 => (r611 = r583 → (wqL_law_43 nW nE L xs n (x4 + (5 : Int32)) R_583 f us P S sc li rc rn ro rd st_583 mcd_607 mwd men mR_607 mI mC mY mZ mF mmd mhi mL mN mfr mX mT mct mtk ot)) ∧ (¬ (r611 = r583) → False)))))))))))) ∧ (((xs x4.toNatClampNeg) &&& (31 : Int32)) = 7 → (vp_in (x4 + (1 : Int32)) L ∧ (vp_in (x4 + (2 : Int32)) L ∧ (vp_in (x4 + (3 : Int32)) L ∧ (wqL_put nW nE R f P st (xs (x4 + (1 : Int32)).toNatClampNeg) (xs (x4 + (2 : Int32)).toNatClampNeg) (xs (x4 + (3 : Int32)).toNatClampNeg) (fun r643 f_643 st_643 => vp_in (x4 + (1 : Int32)) L ∧ (vp_in (x4 + (2 : Int32)) L ∧ (vp_in (x4 + (3 : Int32)) L ∧ (wqR_put mcd mR mY mZ mF mL mN (xs (x4 + (1 : Int32)).toNatClampNeg) (xs (x4 + (2 : Int32)).toNatClampNeg) (xs (x4 + (3 : Int32)).toNatClampNeg) (fun mcd_667 mL_667 => wqR_thrown mcd_667 (fun r671 => (r671 = r643 → (wqL_law_43 nW nE L xs n (x4 + (5 : Int32)) R f_643 us P S sc li rc rn ro rd st_643 mcd_667 mwd men mR mI mC mY mZ mF mmd mhi mL_667 mN mfr mX mT mct mtk ot)) ∧ (¬ (r671 = r643) → False)))))))))))) ∧ (((xs x4.toNatClampNeg) &&& (31 : Int32)) = 8 → (vp_in (x4 + (1 : Int32)) L ∧ (vp_in (x4 + (2 : Int32)) L ∧ (vp_in (x4 + (3 : Int32)) L ∧ (wqL_walk nW nE R f P st ot (xs (x4 + (1 : Int32)).toNatClampNeg) (xs (x4 + (2 : Int32)).toNatClampNeg) (xs (x4 + (3 : Int32)).toNatClampNeg) (fun r704 R_704 st_704 ot_704 => vp_in (x4 + (1 : Int32)) L ∧ (vp_in (x4 + (2 : Int32)) L ∧ (vp_in (x4 + (3 : Int32)) L ∧ (wqR_walk mcd mR mY mZ mF mL mN (xs (x4 + (1 : Int32)).toNatClampNeg) (xs (x4 + (2 : Int32)).toNatClampNeg) (xs (x4 + (3 : Int32)).toNatClampNeg) (fun r728 mcd_728 mR_728 => wqR_thrown mcd_728 (fun r734 => (r734 = r704 → ((r704 = 0 → (vp_in (0 : Int32) 1 ∧ (((lg_cmp (ot_704 (0 : Int32).toNatClampNeg) r728.toInt64) = 0 → (wqL_law_43 nW nE L xs n (x4 + (5 : Int32)) R_704 f us P S sc li rc rn ro rd st_704 mcd_728 mwd men mR_728 mI mC mY mZ mF mmd mhi mL mN mfr mX mT mct mtk ot_704)) ∧ (¬ ((lg_cmp (ot_704 (0 : Int32).toNatClampNeg) r728.toInt64) = 0) → False)))) ∧ (¬ (r704 = 0) → (wqL_law_43 nW nE L xs n (x4 + (5 : Int32)) R_704 f us P S sc li rc rn ro rd st_704 mcd_728 mwd men mR_728 mI mC mY mZ mF mmd mhi mL mN mfr mX mT mct mtk ot_704)))) ∧ (¬ (r734 = r704) → False)))))))))))) ∧ (((xs x4.toNatClampNeg) &&& (31 : Int32)) = 9 → (vp_in (x4 + (1 : Int32)) L ∧ (vp_in (x4 + (2 : Int32)) L ∧ (wqL_classOf nW nE R f P st (xs (x4 + (1 : Int32)).toNatClampNeg) (xs (x4 + (2 : Int32)).toNatClampNeg) (fun r777 R_777 st_777 => vp_in (x4 + (1 : Int32)) L ∧ (vp_in (x4 + (2 : Int32)) L ∧ (wqR_classOf mcd mR mC (xs (x4 + (1 : Int32)).toNatClampNeg) (xs (x4 + (2 : Int32)).toNatClampNeg) (fun mcd_795 mR_795 => wqR_thrown mcd_795 (fun r799 => (r799 = r777 → (wqL_law_43 nW nE L xs n (x4 + (5 : Int32)) R_777 f us P S sc li rc rn ro rd st_777 mcd_795 mwd men mR_795 mI mC mY mZ mF mmd mhi mL mN mfr mX mT mct mtk ot)) ∧ (¬ (r799 = r777) → False)))))))))) ∧ (((xs x4.toNatClampNeg) &&& (31 : Int32)) = 10 → (vp_in (x4 + (1 : Int32)) L ∧ (vp_in (x4 + (2 : Int32)) L ∧ (wqL_setClass nW nE R f P st (xs (x4 + (1 : Int32)).toNatClampNeg) (xs (x4 + (2 : Int32)).toNatClampNeg) (fun r825 f_825 st_825 => vp_in (x4 + (1 : Int32)) L ∧ (vp_in (x4 + (2 : Int32)) L ∧ (wqR_setClass mcd mR mC (xs (x4 + (1 : Int32)).toNatClampNeg) (xs (x4 + (2 : Int32)).toNatClampNeg) (fun mcd_843 mC_843 => wqR_thrown mcd_843 (fun r847 => (r847 = r825 → (wqL_law_43 nW nE L xs n (x4 + (5 : Int32)) R f_825 us P S sc li rc rn ro rd st_825 mcd_843 mwd men mR mI mC_843 mY mZ mF mmd mhi mL mN mfr mX mT mct mtk ot)) ∧ (¬ (r847 = r825) → False)))))))))) ∧ (((xs x4.toNatClampNeg) &&& (31 : Int32)) = 11 → (vp_in (x4 + (1 : Int32)) L ∧ (vp_in (x4 + (2 : Int32)) L ∧ (wqL_byteAt nW nE R f P ot (xs (x4 + (1 : Int32)).toNatClampNeg) (xs (x4 + (2 : Int32)).toNatClampNeg) (fun r874 ot_874 => vp_in (x4 + (1 : Int32)) L ∧ (vp_in (x4 + (2 : Int32)) L ∧ (wqR_byteAt mcd mR mY mZ mF mL mN (xs (x4 + (1 : Int32)).toNatClampNeg) (xs (x4 + (2 : Int32)).toNatClampNeg) (fun r892 mcd_892 => wqR_thrown mcd_892 (fun r898 => (r898 = r874 → ((r874 = 0 → (vp_in (0 : Int32) 1 ∧ (((lg_cmp (ot_874 (0 : Int32).toNatClampNeg) r892.toInt64) = 0 → (wqL_law_43 nW nE L xs n (x4 + (5 : Int32)) R f us P S sc li rc rn ro rd st mcd_892 mwd men mR mI mC mY mZ mF mmd mhi mL mN mfr mX mT mct mtk ot_874)) ∧ (¬ ((lg_cmp (ot_874 (0 : Int32).toNatClampNeg) r892.toInt64) = 0) → False)))) ∧ (¬ (r874 = 0) → (wqL_law_43 nW nE L xs n (x4 + (5 : Int32)) R f us P S sc li rc rn ro rd st mcd_892 mwd men mR mI mC mY mZ mF mmd mhi mL mN mfr mX mT mct mtk ot_874)))) ∧ (¬ (r898 = r874) → False)))))))))) ∧ (((xs x4.toNatClampNeg) &&& (31 : Int32)) = 12 → (vp_in (x4 + (1 : Int32)) L ∧ (vp_in (x4 + (2 : Int32)) L ∧ (vp_in (x4 + (3 : Int32)) L ∧ (vp_in (x4 + (4 : Int32)) L ∧ (wqL_bytePut nW nE R f P (xs (x4 + (1 : Int32)).toNatClampNeg) (xs (x4 + (2 : Int32)).toNatClampNeg) ((((xs (x4 + (3 : Int32)).toNatClampNeg).toInt64) <<< ((32 : Int32).toInt64 &&& 63)) ||| (((xs (x4 + (4 : Int32)).toNatClampNeg).toInt64) &&& (4294967295 : Int64))) (fun r963 f_963 => vp_in (x4 + (1 : Int32)) L ∧ (vp_in (x4 + (2 : Int32)) L ∧ (vp_in (x4 + (3 : Int32)) L ∧ (vp_in (x4 + (4 : Int32)) L ∧ (wqR_bytePut mcd mR mY mZ mF mL mN (xs (x4 + (1 : Int32)).toNatClampNeg) (xs (x4 + (2 : Int32)).toNatClampNeg) ((((xs (x4 + (3 : Int32)).toNatClampNeg).toInt64) <<< ((32 : Int32).toInt64 &&& 63)) ||| (((xs (x4 + (4 : Int32)).toNatClampNeg).toInt64) &&& (4294967295 : Int64))) (fun mcd_1003 mL_1003 => wqR_thrown mcd_1003 (fun r1007 => (r1007 = r963 → (wqL_law_43 nW nE L xs n (x4 + (5 : Int32)) R f_963 us P S sc li rc rn ro rd st mcd_1003 mwd men mR mI mC mY mZ mF mmd mhi mL_1003 mN mfr mX mT mct mtk ot)) ∧ (¬ (r1007 = r963) → False)))))))))))))) ∧ (((xs x4.toNatClampNeg) &&& (31 : Int32)) = 13 → (vp_in (x4 + (1 : Int32)) L ∧ (wqL_kind nW nE R f P ot (xs (x4 + (1 : Int32)).toNatClampNeg) (fun r1028 ot_1028 => vp_in (x4 + (1 : Int32)) L ∧ (wqR_kind mcd mR mY (xs (x4 + (1 : Int32)).toNatClampNeg) (fun r1040 mcd_1040 => wqR_thrown mcd_1040 (fun r1046 => (r1046 = r1028 → ((r1028 = 0 → (vp_in (0 : Int32) 1 ∧ (((lg_cmp (ot_1028 (0 : Int32).toNatClampNeg) r1040.toInt64) = 0 → (wqL_law_43 nW nE L xs n (x4 + (5 : Int32)) R f us P S sc li rc rn ro rd st mcd_1040 mwd men mR mI mC mY mZ mF mmd mhi mL mN mfr mX mT mct mtk ot_1028)) ∧ (¬ ((lg_cmp (ot_1028 (0 : Int32).toNatClampNeg) r1040.toInt64) = 0) → False)))) ∧ (¬ (r1028 = 0) → (wqL_law_43 nW nE L xs n (x4 + (5 : Int32)) R f us P S sc li rc rn ro rd st mcd_1040 mwd men mR mI mC mY mZ mF mmd mhi mL mN mfr mX mT mct mtk ot_1028)))) ∧ (¬ (r1046 = r1028) → False)))))))) ∧ (((xs x4.toNatClampNeg) &&& (31 : Int32)) = 14 → (vp_in (x4 + (1 : Int32)) L ∧ (wqL_value nW nE R f P ot (xs (x4 + (1 : Int32)).toNatClampNeg) (fun r1084 ot_1084 => vp_in (x4 + (1 : Int32)) L ∧ (wqR_value mcd mR mI (xs (x4 + (1 : Int32)).toNatClampNeg) (fun r1096 mcd_1096 => wqR_thrown mcd_1096 (fun r1102 => (r1102 = r1084 → ((r1084 = 0 → (vp_in (0 : Int32) 1 ∧ (((lg_cmp (ot_1084 (0 : Int32).toNatClampNeg) r1096.toInt64) = 0 → (wqL_law_43 nW nE L xs n (x4 + (5 : Int32)) R f us P S sc li rc rn ro rd st mcd_1096 mwd men mR mI mC mY mZ mF mmd mhi mL mN mfr mX mT mct mtk ot_1084)) ∧ (¬ ((lg_cmp (ot_1084 (0 : Int32).toNatClampNeg) r1096.toInt64) = 0) → False)))) ∧ (¬ (r1084 = 0) → (wqL_law_43 nW nE L xs n (x4 + (5 : Int32)) R f us P S sc li rc rn ro rd st mcd_1096 mwd men mR mI mC mY mZ mF mmd mhi mL mN mfr mX mT mct mtk ot_1084)))) ∧ (¬ (r1102 = r1084) → False)))))))) ∧ (((xs x4.toNatClampNeg) &&& (31 : Int32)) = 15 → (vp_in (x4 + (1 : Int32)) L ∧ (wqL_size nW nE R f P ot (xs (x4 + (1 : Int32)).toNatClampNeg) (fun r1140 ot_1140 => vp_in (x4 + (1 : Int32)) L ∧ (wqR_size mcd mR mZ (xs (x4 + (1 : Int32)).toNatClampNeg) (fun r1152 mcd_1152 => wqR_thrown mcd_1152 (fun r1158 => (r1158 = r1140 → ((r1140 = 0 → (vp_in (0 : Int32) 1 ∧ (((lg_cmp (ot_1140 (0 : Int32).toNatClampNeg) r1152.toInt64) = 0 → (wqL_law_43 nW nE L xs n (x4 + (5 : Int32)) R f us P S sc li rc rn ro rd st mcd_1152 mwd men mR mI mC mY mZ mF mmd mhi mL mN mfr mX mT mct mtk ot_1140)) ∧ (¬ ((lg_cmp (ot_1140 (0 : Int32).toNatClampNeg) r1152.toInt64) = 0) → False)))) ∧ (¬ (r1140 = 0) → (wqL_law_43 nW nE L xs n (x4 + (5 : Int32)) R f us P S sc li rc rn ro rd st mcd_1152 mwd men mR mI mC mY mZ mF mmd mhi mL mN mfr mX mT mct mtk ot_1140)))) ∧ (¬ (r1158 = r1140) → False)))))))) ∧ (((xs x4.toNatClampNeg) &&& (31 : Int32)) = 16 → (vp_in (x4 + (1 : Int32)) L ∧ (vp_in (x4 + (2 : Int32)) L ∧ (wqL_become nW nE R f P (xs (x4 + (1 : Int32)).toNatClampNeg) (xs (x4 + (2 : Int32)).toNatClampNeg) (fun r1201 f_1201 P_1201 => vp_in (x4 + (1 : Int32)) L ∧ (vp_in (x4 + (2 : Int32)) L ∧ (wqR_become mcd mR mI mC mY mZ mF (xs (x4 + (1 : Int32)).toNatClampNeg) (xs (x4 + (2 : Int32)).toNatClampNeg) (fun mcd_1219 mI_1219 mC_1219 mY_1219 mZ_1219 mF_1219 => wqR_thrown mcd_1219 (fun r1223 => (r1223 = r1201 → (wqL_law_43 nW nE L xs n (x4 + (5 : Int32)) R f_1201 us P_1201 S sc li rc rn ro rd st mcd_1219 mwd men mR mI_1219 mC_1219 mY_1219 mZ_1219 mF_1219 mmd mhi mL mN mfr mX mT mct mtk ot)) ∧ (¬ (r1223 = r1201) → False)))))))))) ∧ (((xs x4.toNatClampNeg) &&& (31 : Int32)) = 17 → (wqT_words nW nE R f us P S sc rc rn ro rd st (fun r1237 f_1237 us_1237 P_1237 S_1237 sc_1237 rc_1237 rn_1237 ro_1237 rd_1237 st_1237 => wqR_words mcd mwd men mR mC mY mZ mF mL mN mX mT mct mtk (fun r1241 mcd_1241 mX_1241 mT_1241 mct_1241 mtk_1241 => (r1237 = r1241 → (wqL_law_43 nW nE L xs n (x4 + (5 : Int32)) R f_1237 us_1237 P_1237 S_1237 sc_1237 li rc_1237 rn_1237 ro_1237 rd_1237 st_1237 mcd_1241 mwd men mR mI mC mY mZ mF mmd mhi mL mN mfr mX_1241 mT_1241 mct_1241 mtk_1241 ot)) ∧ (¬ (r1237 = r1241) → False))))) ∧ (((xs x4.toNatClampNeg) &&& (31 : Int32)) = 18 → (wqT_entries nW nE R f us P S sc rc rn ro rd st (fun r1250 f_1250 us_1250 P_1250 S_1250 sc_1250 rc_1250 rn_1250 ro_1250 rd_1250 st_1250 => wqR_entries mcd men mR mC mY mZ mF mL mN mX mT mct mtk (fun r1254 mcd_1254 mX_1254 mT_1254 mct_1254 mtk_1254 => (r1250 = r1254 → (wqL_law_43 nW nE L xs n (x4 + (5 : Int32)) R f_1250 us_1250 P_1250 S_1250 sc_1250 li rc_1250 rn_1250 ro_1250 rd_1250 st_1250 mcd_1254 mwd men mR mI mC mY mZ mF mmd mhi mL mN mfr mX_1254 mT_1254 mct_1254 mtk_1254 ot)) ∧ (¬ (r1250 = r1254) → False))))) ∧ (((xs x4.toNatClampNeg) &&& (31 : Int32)) = 19 → (vp_in (x4 + (1 : Int32)) L ∧ (vp_in (x4 + (2 : Int32)) L ∧ (vp_in (x4 + (3 : Int32)) L ∧ (wqL_instance nW nE R f us P S sc rc rn ro rd st ot (xs (x4 + (1 : Int32)).toNatClampNeg) (xs (x4 + (2 : Int32)).toNatClampNeg) (xs (x4 + (3 : Int32)).toNatClampNeg) (fun r1282 R_1282 f_1282 us_1282 P_1282 S_1282 sc_1282 rc_1282 rn_1282 ro_1282 rd_1282 st_1282 ot_1282 => vp_in (x4 + (1 : Int32)) L ∧ (vp_in (x4 + (2 : Int32)) L ∧ (vp_in (x4 + (3 : Int32)) L ∧ (wqR_instance mcd men mR mI mC mY mZ mF mL mN mX mT mct mtk (xs (x4 + (1 : Int32)).toNatClampNeg) (xs (x4 + (2 : Int32)).toNatClampNeg) (xs (x4 + (3 : Int32)).toNatClampNeg) (fun r1306 mcd_1306 mR_1306 mX_1306 mT_1306 mct_1306 mtk_1306 => wqR_thrown mcd_1306 (fun r1312 => (r1312 = r1282 → ((r1282 = 0 → (vp_in (0 : Int32) 1 ∧ (((lg_cmp (ot_1282 (0 : Int32).toNatClampNeg) r1306.toInt64) = 0 → (wqL_law_43 nW nE L xs n (x4 + (5 : Int32)) R_1282 f_1282 us_1282 P_1282 S_1282 sc_1282 li rc_1282 rn_1282 ro_1282 rd_1282 st_1282 mcd_1306 mwd men mR_1306 mI mC mY mZ mF mmd mhi mL mN mfr mX_1306 mT_1306 mct_1306 mtk_1306 ot_1282)) ∧ (¬ ((lg_cmp (ot_1282 (0 : Int32).toNatClampNeg) r1306.toInt64) = 0) → False)))) ∧ (¬ (r1282 = 0) → (wqL_law_43 nW nE L xs n (x4 + (5 : Int32)) R_1282 f_1282 us_1282 P_1282 S_1282 sc_1282 li rc_1282 rn_1282 ro_1282 rd_1282 st_1282 mcd_1306 mwd men mR_1306 mI mC mY mZ mF mmd mhi mL mN mfr mX_1306 mT_1306 mct_1306 mtk_1306 ot_1282)))) ∧ (¬ (r1312 = r1282) → False)))))))))))) ∧ (((xs x4.toNatClampNeg) &&& (31 : Int32)) = 20 → (vp_in (x4 + (1 : Int32)) L ∧ (wqL_owners nW nE R f us P S sc rc rn ro rd st ot (xs (x4 + (1 : Int32)).toNatClampNeg) (fun r1350 f_1350 us_1350 P_1350 S_1350 sc_1350 rc_1350 rn_1350 ro_1350 rd_1350 st_1350 ot_1350 => vp_in (x4 + (1 : Int32)) L ∧ (wqR_owners mcd men mR mC mY mZ mF mL mN mX mT mct mtk (xs (x4 + (1 : Int32)).toNatClampNeg) (fun r1362 mcd_1362 mX_1362 mT_1362 mct_1362 mtk_1362 => wqR_thrown mcd_1362 (fun r1368 => (r1368 = r1350 → ((r1350 = 0 → (vp_in (0 : Int32) 1 ∧ (((lg_cmp (ot_1350 (0 : Int32).toNatClampNeg) r1362.toInt64) = 0 → (wqL_law_43 nW nE L xs n (x4 + (5 : Int32)) R f_1350 us_1350 P_1350 S_1350 sc_1350 li rc_1350 rn_1350 ro_1350 rd_1350 st_1350 mcd_1362 mwd men mR mI mC mY mZ mF mmd mhi mL mN mfr mX_1362 mT_1362 mct_1362 mtk_1362 ot_1350)) ∧ (¬ ((lg_cmp (ot_1350 (0 : Int32).toNatClampNeg) r1362.toInt64) = 0) → False)))) ∧ (¬ (r1350 = 0) → (wqL_law_43 nW nE L xs n (x4 + (5 : Int32)) R f_1350 us_1350 P_1350 S_1350 sc_1350 li rc_1350 rn_1350 ro_1350 rd_1350 st_1350 mcd_1362 mwd men mR mI mC mY mZ mF mmd mhi mL mN mfr mX_1362 mT_1362 mct_1362 mtk_1362 ot_1350)))) ∧ (¬ (r1368 = r1350) → False)))))))) ∧ (((xs x4.toNatClampNeg) &&& (31 : Int32)) = 21 → (vp_in (x4 + (1 : Int32)) L ∧ (vp_in (x4 + (2 : Int32)) L ∧ (wqL_reaches nW nE R f P rc rn ro rd ot (xs (x4 + (1 : Int32)).toNatClampNeg) (xs (x4 + (2 : Int32)).toNatClampNeg) (fun r1412 rc_1412 rn_1412 ro_1412 rd_1412 ot_1412 => vp_in (x4 + (1 : Int32)) L ∧ (vp_in (x4 + (2 : Int32)) L ∧ (wqR_reaches mcd men mR mC mY mZ mF mL mN mX mT mct mtk (xs (x4 + (1 : Int32)).toNatClampNeg) (xs (x4 + (2 : Int32)).toNatClampNeg) (fun r1430 mcd_1430 mX_1430 mT_1430 mct_1430 mtk_1430 => wqR_thrown mcd_1430 (fun r1436 => (r1436 = r1412 → ((r1412 = 0 → (vp_in (0 : Int32) 1 ∧ ((r1430 = 0 → (((lg_cmp (ot_1412 (0 : Int32).toNatClampNeg) (0 : Int64)) = 0 → (wqL_law_43 nW nE L xs n (x4 + (5 : Int32)) R f us P S sc li rc_1412 rn_1412 ro_1412 rd_1412 st mcd_1430 mwd men mR mI mC mY mZ mF mmd mhi mL mN mfr mX_1430 mT_1430 mct_1430 mtk_1430 ot_1412)) ∧ (¬ ((lg_cmp (ot_1412 (0 : Int32).toNatClampNeg) (0 : Int64)) = 0) → False))) ∧ (¬ (r1430 = 0) → (((lg_cmp (ot_1412 (0 : Int32).toNatClampNeg) (1 : Int64)) = 0 → (wqL_law_43 nW nE L xs n (x4 + (5 : Int32)) R f us P S sc li rc_1412 rn_1412 ro_1412 rd_1412 st mcd_1430 mwd men mR mI mC mY mZ mF mmd mhi mL mN mfr mX_1430 mT_1430 mct_1430 mtk_1430 ot_1412)) ∧ (¬ ((lg_cmp (ot_1412 (0 : Int32).toNatClampNeg) (1 : Int64)) = 0) → False)))))) ∧ (¬ (r1412 = 0) → (wqL_law_43 nW nE L xs n (x4 + (5 : Int32)) R f us P S sc li rc_1412 rn_1412 ro_1412 rd_1412 st mcd_1430 mwd men mR mI mC mY mZ mF mmd mhi mL mN mfr mX_1430 mT_1430 mct_1430 mtk_1430 ot_1412)))) ∧ (¬ (r1436 = r1412) → False)))))))))) ∧ (((xs x4.toNatClampNeg) &&& (31 : Int32)) = 22 → (vp_in (x4 + (1 : Int32)) L ∧ (wqL_sum nW nE R f P ot (xs (x4 + (1 : Int32)).toNatClampNeg) (fun r1481 ot_1481 => vp_in (x4 + (1 : Int32)) L ∧ (wqR_sum mcd mR mY mZ mF mL mN (xs (x4 + (1 : Int32)).toNatClampNeg) (fun r1493 mcd_1493 => wqR_thrown mcd_1493 (fun r1499 => (r1499 = r1481 → ((r1481 = 0 → (vp_in (0 : Int32) 1 ∧ (((lg_cmp (ot_1481 (0 : Int32).toNatClampNeg) r1493.toInt64) = 0 → (wqL_law_43 nW nE L xs n (x4 + (5 : Int32)) R f us P S sc li rc rn ro rd st mcd_1493 mwd men mR mI mC mY mZ mF mmd mhi mL mN mfr mX mT mct mtk ot_1481)) ∧ (¬ ((lg_cmp (ot_1481 (0 : Int32).toNatClampNeg) r1493.toInt64) = 0) → False)))) ∧ (¬ (r1481 = 0) → (wqL_law_43 nW nE L xs n (x4 + (5 : Int32)) R f us P S sc li rc rn ro rd st mcd_1493 mwd men mR mI mC mY mZ mF mmd mhi mL mN mfr mX mT mct mtk ot_1481)))) ∧ (¬ (r1499 = r1481) → False)))))))) ∧ (23 ≤ ((xs x4.toNatClampNeg) &&& (31 : Int32)).toInt → (wqL_law_43 nW nE L xs n (x4 + (5 : Int32)) R f us P S sc li rc rn ro rd st mcd mwd men mR mI mC mY mZ mF mmd mhi mL mN mfr mX mT mct mtk ot)))))
set_option maxHeartbeats 40000000 in
set_option maxRecDepth 100000 in
theorem law_loop {p : Program} {e : Env} {s : State} {m : MethodId} {below : List Frame} {meth : Method} {c : Code} (l : Launch) (hlT : l.stackTraces = false) {b L : Nat} {xs : Nat → Int32} (C0 : lw_At p s m meth c b L xs) (sa : Nat → Nat) (hXT : xt_T (fun q : Nat => s.heap.size ≤ q) sa s s.heap) (hNC : xh_N s) (dC : Nat → ClassId) (dI : Nat → Nat → Nat) (cA : ClassId) (a0 : Nat) (aR : Nat) (aM : Nat) (aW : Nat) (aP : Nat) (aS : Nat) (aC : Nat) (aO : Nat) (nW : Nat) (nE : Nat) (cI : ClassId) (cZ : ClassId) (b0 : Nat) (bR : Nat) (bI : Nat) (bC : Nat) (bY : Nat) (bZ : Nat) (bF : Nat) (bL : Nat) (bN : Nat) (bX : Nat) (bT : Nat) (cL : ClassId) (aL : Nat) (hK : va_K (dC, dI) vwCl [(cA, .int), (cI, .int), (cZ, .boolean), (cL, .long)] s) : ∀ (n : Nat), n ≤ 513 → ∀ (x4 : Int32) (R : Nat → Int32) (f : Nat → Int32) (us : Int32) (P : Nat → Int32) (S : Nat → Int32) (sc : Int32) (li : Int32) (rc : Nat → Int32) (rn : Int32) (ro : Nat → Int32) (rd : Int32) (st : Int32) (mcd : Int32) (mwd : Int32) (men : Int32) (mR : Nat → Int32) (mI : Nat → Int32) (mC : Nat → Int32) (mY : Nat → Int32) (mZ : Nat → Int32) (mF : Nat → Int32) (mmd : Int32) (mhi : Int32) (mL : Nat → Int32) (mN : Nat → Int32) (mfr : Int32) (mX : Nat → Int32) (mT : Nat → Int32) (mct : Int32) (mtk : Int32) (ot : Nat → Int64) (H : Heap) (locs : List Loc) (ls : Array Slot), va_P (dC, dI) vwCl (LMw cA a0 aR aM aW aP aS aC aO nW nE cI cZ b0 bR bI bC bY bZ bF bL bN bX bT cL aL R f us P S sc li rc rn ro rd st mcd mwd men mR mI mC mY mZ mF mmd mhi mL mN mfr mX mT mct mtk ot) H → va_D (fun q : Nat => s.heap.size ≤ q) (LMw cA a0 aR aM aW aP aS aC aO nW nE cI cZ b0 bR bI bC bY bZ bF bL bN bX bT cL aL R f us P S sc li rc rn ro rd st mcd mwd men mR mI mC mY mZ mF mmd mhi mL mN mfr mX mT mct mtk ot) → va_S (fun q : Nat => s.heap.size ≤ q) s.heap H locs → lv_has ls 7 [(0, .ref b), (1, .ref a0), (2, .ref b0), (3, .ref aL), (4, .int x4)] → wqL_law_43 nW nE L xs n x4 R f us P S sc li rc rn ro rd st mcd mwd men mR mI mC mY mZ mF mmd mhi mL mN mfr mX mT mct mtk ot → W p l e room_1 s m #[Value.ref b] below meth c H locs (20 + 8 * (513 - n)) (286816 + 48 * (513 - n)) (lw_Z below #[Value.ref b] s) (F0 m 43 ls []) := by
  obtain ⟨hx, hb, hr9, hml, hown, hts, hX, hbl, hlocks, hgv⟩ := id C0
  have hw : ∀ w ∈ WB_, w.before _ s = true := fun w h => hts w (List.mem_filter.mp h).1
  have hA : ∀ q : Nat, s.heap.size ≤ q → (fun q : Nat => s.heap.size ≤ q) q := fun _ h => h
  have hbA : ¬ (fun q : Nat => s.heap.size ≤ q) b := Nat.not_le.mpr hbl
  have hown : s.vm.findClass R_L = some m.cls := hown
  intro n
  induction n with
  | zero =>
    intro _ x4 R f us P S sc li rc rn ro rd st mcd mwd men mR mI mC mY mZ mF mmd mhi mL mN mfr mX mT mct mtk ot H locs ls hP hD hS hl h
    exact h.elim
  | succ n ih =>
    intro hn x4 R f us P S sc li rc rn ro rd st mcd mwd men mR mI mC mY mZ mF mmd mhi mL mN mfr mX mT mct mtk ot H locs ls hP hD hS hl h
    refine lv_iload hx hb d_L_law_43 (lv_at hl 4 rfl) ?_
    refine lv_aload_n hx hb d_L_law_45 rfl (lv_at hl 0 rfl) ?_
    refine va_slen hx hb hX hbl hbA hS d_L_law_46 ?_
    refine lv_iconst (v := (5 : Int32)) hx hb d_L_law_47 (by decide) ?_
    refine lv_isub hx hb d_L_law_48 ?_
    refine lv_icmp_gt (tgt := 1535) hx hb d_L_law_49 (by decide) (fun c_49 => ?_) (fun c_49 => ?_)
    · have h := h.1 c_49
      refine lv_iconst (v := (1 : Int32)) hx hb d_L_law_1535 (by decide) ?_
      refine va_forget (fun q h => hS.2.2 q h) ?_
      refine W.widen (k := 601024) (n := 7293000) (by omega) (by omega) ?_
      exact lw_ret hx hb hr9 hlocks d_L_law_1536
    · have h := h.2 c_49
      refine lv_aload_n hx hb d_L_law_52 rfl (lv_at hl 0 rfl) ?_
      refine lv_iload hx hb d_L_law_53 (lv_at hl 4 rfl) ?_
      refine va_sld hx hb hX hbl hbA hS h.1 d_L_law_55 ?_
      have h := h.2
      refine lv_bipush (v := (31 : Int32)) hx hb d_L_law_56 (by decide) ?_
      refine lv_iand hx hb d_L_law_58 ?_
      obtain ⟨j, hj, ej⟩ := pk_andE (xs x4.toNatClampNeg) (m := (31 : Int32)) 5 (by decide)
      rw [ej] at h ⊢
      rcases (show j = 0 ∨ j = 1 ∨ j = 2 ∨ j = 3 ∨ j = 4 ∨ j = 5 ∨ j = 6 ∨ j = 7 ∨ j = 8 ∨ j = 9 ∨ j = 10 ∨ j = 11 ∨ j = 12 ∨ j = 13 ∨ j = 14 ∨ j = 15 ∨ j = 16 ∨ j = 17 ∨ j = 18 ∨ j = 19 ∨ j = 20 ∨ j = 21 ∨ j = 22 ∨ 23 ≤ j by omega) with rfl | rfl | rfl | rfl | rfl | rfl | rfl | rfl | rfl | rfl | rfl | rfl | rfl | rfl | rfl | rfl | rfl | rfl | rfl | rfl | rfl | rfl | rfl | hj2
      · refine lv_tableIn (tgt := 164) hx hb d_L_law_59 (by decide) (by decide) rfl (by decide) ?_
        have h := h.1 rfl
        refine lv_aload_n hx hb d_L_law_164 rfl (lv_at hl 1 rfl) ?_
        refine lv_aload_n hx hb d_L_law_165 rfl (lv_at hl 0 rfl) ?_
        refine lv_iload hx hb d_L_law_166 (lv_at hl 4 rfl) ?_
        refine lv_iconst (v := (1 : Int32)) hx hb d_L_law_168 (by decide) ?_
        refine lv_iadd hx hb d_L_law_169 ?_
        refine va_sld hx hb hX hbl hbA hS h.1 d_L_law_170 ?_
        have h := h.2
        refine lv_aload_n hx hb d_L_law_171 rfl (lv_at hl 0 rfl) ?_
        refine lv_iload hx hb d_L_law_172 (lv_at hl 4 rfl) ?_
        refine lv_iconst (v := (2 : Int32)) hx hb d_L_law_174 (by decide) ?_
        refine lv_iadd hx hb d_L_law_175 ?_
        refine va_sld hx hb hX hbl hbA hS h.1 d_L_law_176 ?_
        have h := h.2
        have hPc := hP.sub (ws' := LHw cA a0 aR aM aW aP aS aC aO nW nE cL aL R f us P S sc li rc rn ro rd st ot) [0, 1, 2, 3, 4, 5, 6, 7, 19] rfl
        have hKc := hK.sub (tys' := [(cA, .int), (cL, .long)]) [0, 3] rfl
        have hDc := hD.sub (ws' := LHw cA a0 aR aM aW aP aS aC aO nW nE cL aL R f us P S sc li rc rn ro rd st ot) [0, 1, 2, 3, 4, 5, 6, 7, 19] (by decide) rfl
        have hFc := va_free (wc := LHw cA a0 aR aM aW aP aS aC aO nW nE cL aL R f us P S sc li rc rn ro rd st ot) hD hS hA [0, 1, 2, 3, 4, 5, 6, 7, 19] rfl
        refine va_calli (vx_runSW (As := [.ref a0, .int (xs (x4 + (1 : Int32)).toNatClampNeg), .int (xs (x4 + (2 : Int32)).toNatClampNeg)]) (rest := []) ⟨hx, hb, hml, hown, hw⟩ (mL_number l hlT sa dC dI cA a0 aR aM aW aP aS aC aO nW nE cL aL H.size R f us P S sc li rc rn ro rd st ot (xs (x4 + (1 : Int32)).toNatClampNeg) (xs (x4 + (2 : Int32)).toNatClampNeg) _ h) (vx_cwSW 3 hw g_L_99 rfl rfl rfl (by decide +kernel) ⟨Nat.le_of_ble_eq_true rfl, Nat.le_of_ble_eq_true rfl⟩) (xh_PS hKc hPc hDc (xt_at hXT hS) hFc hNC) rfl rfl hl.1 rfl (lv_room (Nat.le_of_ble_eq_true rfl)) d_L_law_177 ⟨by show 20 + 8 * (513 - (n + 1)) + 2 ≤ 601024; omega, by show 286816 + 48 * (513 - (n + 1)) + 12 ≤ 7293000; omega⟩) hS (fun q _ h => hFc q h) hFc (fun r177 u t H1 locs ht hvm h hB hz1 hk1 hS => ?_)
        obtain ⟨R_177, st_177⟩ := u
        obtain ⟨hP1, hK1, hD1⟩ := hB
        rw [ht] at hP1
        obtain ⟨hP, hD⟩ := va_join (wr := [(b0, .inr (2, [.int mcd, .int mwd, .int men, .ref bR, .ref bI, .ref bC, .ref bY, .ref bZ, .ref bF, .int mmd, .int mhi, .ref bL, .ref bN, .int mfr, .ref bX, .ref bT, .int mct, .int mtk])), (bR, .inl (cI, 32, .inl mR)), (bI, .inl (cI, 8192, .inl mI)), (bC, .inl (cI, 8192, .inl mC)), (bY, .inl (cZ, 8192, .inl mY)), (bZ, .inl (cI, 8192, .inl mZ)), (bF, .inl (cI, 8192, .inl mF)), (bL, .inl (cI, 65536, .inl mL)), (bN, .inl (cI, 65536, .inl mN)), (bX, .inl (cZ, 8192, .inl mX)), (bT, .inl (cI, 8192, .inl mT))]) (w1 := LHw cA a0 aR aM aW aP aS aC aO nW nE cL aL R_177 f us P S sc li rc rn ro rd st_177 ot) hP hD [0, 1, 2, 3, 4, 5, 6, 7, 19] [8, 9, 10, 11, 12, 13, 14, 15, 16, 17, 18] rfl rfl (by decide) (by decide) hk1 hFc hP1 hD1
        have hP := hP.sub (ws' := LMw cA a0 aR aM aW aP aS aC aO nW nE cI cZ b0 bR bI bC bY bZ bF bL bN bX bT cL aL R_177 f us P S sc li rc rn ro rd st_177 mcd mwd men mR mI mC mY mZ mF mmd mhi mL mN mfr mX mT mct mtk ot) [11, 12, 13, 14, 15, 16, 17, 18, 0, 1, 2, 3, 4, 5, 6, 7, 8, 9, 10, 19] rfl
        have hD := hD.sub (ws' := LMw cA a0 aR aM aW aP aS aC aO nW nE cI cZ b0 bR bI bC bY bZ bF bL bN bX bT cL aL R_177 f us P S sc li rc rn ro rd st_177 mcd mwd men mR mI mC mY mZ mF mmd mhi mL mN mfr mX mT mct mtk ot) [11, 12, 13, 14, 15, 16, 17, 18, 0, 1, 2, 3, 4, 5, 6, 7, 8, 9, 10, 19] (by decide) rfl
        generalize H1 = H at hP hS ⊢
        clear hPc hDc hKc hFc hP1 hD1 hK1 hk1
        try dsimp only at h
        refine lv_istore (lv' := [(5, .int r177), (0, .ref b), (1, .ref a0), (2, .ref b0), (3, .ref aL), (4, .int x4)]) hx hb d_L_law_180 hl (by decide) rfl (fun ls hl => ?_)
        refine lv_aload_n hx hb d_L_law_182 rfl (lv_at hl 3 rfl) ?_
        refine lv_aload_n hx hb d_L_law_183 rfl (lv_at hl 1 rfl) ?_
        refine lv_iload hx hb d_L_law_184 (lv_at hl 5 rfl) ?_
        refine lv_iconst (v := (1 : Int32)) hx hb d_L_law_186 (by decide) ?_
        refine lv_iadd hx hb d_L_law_187 ?_
        refine va_sld hx hb hX hbl hbA hS h.1 d_L_law_188 ?_
        have h := h.2
        refine lv_aload_n hx hb d_L_law_189 rfl (lv_at hl 1 rfl) ?_
        refine lv_iload hx hb d_L_law_190 (lv_at hl 5 rfl) ?_
        refine lv_iconst (v := (2 : Int32)) hx hb d_L_law_192 (by decide) ?_
        refine lv_iadd hx hb d_L_law_193 ?_
        refine va_sld hx hb hX hbl hbA hS h.1 d_L_law_194 ?_
        have h := h.2
        have hPc := hP.sub (ws' := RSw cI cZ b0 bR bI bC bY bZ bF bL bN bX bT mcd mwd men mR mI mC mY mZ mF mmd mhi mL mN mfr mX mT mct mtk) [8, 9, 10, 11, 12, 13, 14, 15, 16, 17, 18] rfl
        have hKc := hK.sub (tys' := [(cI, .int), (cZ, .boolean)]) [1, 2] rfl
        have hDc := hD.sub (ws' := RSw cI cZ b0 bR bI bC bY bZ bF bL bN bX bT mcd mwd men mR mI mC mY mZ mF mmd mhi mL mN mfr mX mT mct mtk) [8, 9, 10, 11, 12, 13, 14, 15, 16, 17, 18] (by decide) rfl
        have hFc := va_free (wc := RSw cI cZ b0 bR bI bC bY bZ bF bL bN bX bT mcd mwd men mR mI mC mY mZ mF mmd mhi mL mN mfr mX mT mct mtk) hD hS hA [8, 9, 10, 11, 12, 13, 14, 15, 16, 17, 18] rfl
        refine va_callv (va_runV (As := [.int (xs (x4 + (1 : Int32)).toNatClampNeg), .int (xs (x4 + (2 : Int32)).toNatClampNeg)]) (rest := []) ⟨hx, hb, hml, hown, hw⟩ (mR_number l dC dI cI cZ b0 bR bI bC bY bZ bF bL bN bX bT H.size mcd mwd men mR mI mC mY mZ mF mmd mhi mL mN mfr mX mT mct mtk (xs (x4 + (1 : Int32)).toNatClampNeg) (xs (x4 + (2 : Int32)).toNatClampNeg) _ h) (cwV 2 hw g_L_102 rfl rfl rfl (by decide +kernel) ⟨Nat.le_of_ble_eq_true rfl, Nat.le_of_ble_eq_true rfl⟩) (rw_PV (ci := 2) (q0 := 0) hKc hPc hDc rfl rfl) rfl rfl hl.1 rfl (lv_room (Nat.le_of_ble_eq_true rfl)) d_L_law_195 ⟨by show 20 + 8 * (513 - (n + 1)) + 2 + 0 ≤ 601024; omega, by show 286816 + 48 * (513 - (n + 1)) + 12 + 0 ≤ 7293000; omega⟩) hS (fun q _ h => hFc q h) hFc (fun u t H1 locs ht hvm h hB hz1 hk1 hS => ?_)
        obtain ⟨mcd_195, mR_195⟩ := u
        obtain ⟨hP1, hK1, hD1⟩ := hB
        rw [ht] at hP1
        obtain ⟨hP, hD⟩ := va_join (wr := [(a0, .inr (0, [.ref aR, .ref aM])), (aR, .inl (cA, 32, .inl R_177)), (aM, .inr (1, [.ref aW, .int us, .ref aP, .ref aS, .int sc, .int li, .ref aC, .int rn, .ref aO, .int rd, .int st_177])), (aW, .inl (cA, nW, .inl f)), (aP, .inl (cA, nE, .inl P)), (aS, .inl (cA, nE, .inl S)), (aC, .inl (cA, nE, .inl rc)), (aO, .inl (cA, nE, .inl ro)), (aL, .inl (cL, 1, .inr (.inl ot)))]) (w1 := RSw cI cZ b0 bR bI bC bY bZ bF bL bN bX bT mcd_195 mwd men mR_195 mI mC mY mZ mF mmd mhi mL mN mfr mX mT mct mtk) hP hD [8, 9, 10, 11, 12, 13, 14, 15, 16, 17, 18] [0, 1, 2, 3, 4, 5, 6, 7, 19] rfl rfl (by decide) (by decide) hk1 hFc hP1 hD1
        have hP := hP.sub (ws' := LMw cA a0 aR aM aW aP aS aC aO nW nE cI cZ b0 bR bI bC bY bZ bF bL bN bX bT cL aL R_177 f us P S sc li rc rn ro rd st_177 mcd_195 mwd men mR_195 mI mC mY mZ mF mmd mhi mL mN mfr mX mT mct mtk ot) [0, 1, 2, 3, 4, 5, 6, 7, 9, 10, 11, 12, 13, 14, 15, 16, 17, 18, 19, 8] rfl
        have hD := hD.sub (ws' := LMw cA a0 aR aM aW aP aS aC aO nW nE cI cZ b0 bR bI bC bY bZ bF bL bN bX bT cL aL R_177 f us P S sc li rc rn ro rd st_177 mcd_195 mwd men mR_195 mI mC mY mZ mF mmd mhi mL mN mfr mX mT mct mtk ot) [0, 1, 2, 3, 4, 5, 6, 7, 9, 10, 11, 12, 13, 14, 15, 16, 17, 18, 19, 8] (by decide) rfl
        generalize H1 = H at hP hS ⊢
        clear hPc hDc hKc hFc hP1 hD1 hK1 hk1
        try dsimp only at h
        refine lv_aload_n hx hb d_L_law_198 rfl (lv_at hl 3 rfl) ?_
        have hPc := hP.sub (ws' := RSw cI cZ b0 bR bI bC bY bZ bF bL bN bX bT mcd_195 mwd men mR_195 mI mC mY mZ mF mmd mhi mL mN mfr mX mT mct mtk) [8, 9, 10, 11, 12, 13, 14, 15, 16, 17, 18] rfl
        have hKc := hK.sub (tys' := [(cI, .int), (cZ, .boolean)]) [1, 2] rfl
        refine rq_calli (W.runV (As := []) (rest := []) ⟨hx, hb, hml, hown, hw⟩ (mR_thrown l dC dI cI cZ b0 bR bI bC bY bZ bF bL bN bX bT mcd_195 mwd men mR_195 mI mC mY mZ mF mmd mhi mL mN mfr mX mT mct mtk _ h) (cwV 0 hw g_L_103 rfl rfl rfl (by decide +kernel) ⟨Nat.le_of_ble_eq_true rfl, Nat.le_of_ble_eq_true rfl⟩) (ro_PV (ci := 2) (q0 := 0) hKc hPc rfl rfl) rfl rfl hl.1 rfl (lv_room (Nat.le_of_ble_eq_true rfl)) d_L_law_199 ⟨by show 20 + 8 * (513 - (n + 1)) + 2 + 0 + 0 ≤ 601024; omega, by show 286816 + 48 * (513 - (n + 1)) + 12 + 0 + 0 ≤ 7293000; omega⟩) (fun r199 h => ?_)
        clear hPc hKc
        refine lv_iload hx hb d_L_law_202 (lv_at hl 0 rfl) ?_
        refine lv_icmp_eq (tgt := 209) hx hb d_L_law_204 (by decide) (fun c_204 => ?_) (fun c_204 => ?_)
        · have h := h.1 c_204
          refine lv_goto (tgt := 1529) hx hb d_L_law_209 (by decide) ?_
          refine lv_iinc (v := x4 + (5 : Int32)) (lv' := [(4, .int (x4 + (5 : Int32))), (5, .int r177), (0, .ref b), (1, .ref a0), (2, .ref b0), (3, .ref aL)]) hx hb d_L_law_1529 hl (k := 5) rfl rfl (by decide) rfl (fun ls hl => ?_)
          refine lv_goto (tgt := 43) hx hb d_L_law_1532 (by decide) ?_
          refine W.widen (k := 20 + 8 * (513 - n)) (n := 286816 + 48 * (513 - n)) (by omega) (by omega) ?_
          exact ih (by omega) (x4 + (5 : Int32)) R_177 f us P S sc li rc rn ro rd st_177 mcd_195 mwd men mR_195 mI mC mY mZ mF mmd mhi mL mN mfr mX mT mct mtk ot H locs ls hP hD hS (lv_sub hl [2, 3, 4, 5, 0] rfl) h
        · have h := h.2 c_204
          refine lv_iconst (v := (0 : Int32)) hx hb d_L_law_207 (by decide) ?_
          exact h.elim
      · refine lv_tableIn (tgt := 212) hx hb d_L_law_59 (by decide) (by decide) rfl (by decide) ?_
        have h := h.2.1 rfl
        refine lv_aload_n hx hb d_L_law_212 rfl (lv_at hl 1 rfl) ?_
        refine lv_aload_n hx hb d_L_law_213 rfl (lv_at hl 0 rfl) ?_
        refine lv_iload hx hb d_L_law_214 (lv_at hl 4 rfl) ?_
        refine lv_iconst (v := (1 : Int32)) hx hb d_L_law_216 (by decide) ?_
        refine lv_iadd hx hb d_L_law_217 ?_
        refine va_sld hx hb hX hbl hbA hS h.1 d_L_law_218 ?_
        have h := h.2
        refine lv_aload_n hx hb d_L_law_219 rfl (lv_at hl 0 rfl) ?_
        refine lv_iload hx hb d_L_law_220 (lv_at hl 4 rfl) ?_
        refine lv_iconst (v := (2 : Int32)) hx hb d_L_law_222 (by decide) ?_
        refine lv_iadd hx hb d_L_law_223 ?_
        refine va_sld hx hb hX hbl hbA hS h.1 d_L_law_224 ?_
        have h := h.2
        have hPc := hP.sub (ws' := LHw cA a0 aR aM aW aP aS aC aO nW nE cL aL R f us P S sc li rc rn ro rd st ot) [0, 1, 2, 3, 4, 5, 6, 7, 19] rfl
        have hKc := hK.sub (tys' := [(cA, .int), (cL, .long)]) [0, 3] rfl
        have hDc := hD.sub (ws' := LHw cA a0 aR aM aW aP aS aC aO nW nE cL aL R f us P S sc li rc rn ro rd st ot) [0, 1, 2, 3, 4, 5, 6, 7, 19] (by decide) rfl
        have hFc := va_free (wc := LHw cA a0 aR aM aW aP aS aC aO nW nE cL aL R f us P S sc li rc rn ro rd st ot) hD hS hA [0, 1, 2, 3, 4, 5, 6, 7, 19] rfl
        refine va_calli (vx_runSW (As := [.ref a0, .int (xs (x4 + (1 : Int32)).toNatClampNeg), .int (xs (x4 + (2 : Int32)).toNatClampNeg)]) (rest := []) ⟨hx, hb, hml, hown, hw⟩ (mL_move l hlT sa dC dI cA a0 aR aM aW aP aS aC aO nW nE cL aL H.size R f us P S sc li rc rn ro rd st ot (xs (x4 + (1 : Int32)).toNatClampNeg) (xs (x4 + (2 : Int32)).toNatClampNeg) _ h) (vx_cwSW 3 hw g_L_107 rfl rfl rfl (by decide +kernel) ⟨Nat.le_of_ble_eq_true rfl, Nat.le_of_ble_eq_true rfl⟩) (xh_PS hKc hPc hDc (xt_at hXT hS) hFc hNC) rfl rfl hl.1 rfl (lv_room (Nat.le_of_ble_eq_true rfl)) d_L_law_225 ⟨by show 20 + 8 * (513 - (n + 1)) + 2 ≤ 601024; omega, by show 286816 + 48 * (513 - (n + 1)) + 12 ≤ 7293000; omega⟩) hS (fun q _ h => hFc q h) hFc (fun r225 u t H1 locs ht hvm h hB hz1 hk1 hS => ?_)
        obtain ⟨R_225, st_225⟩ := u
        obtain ⟨hP1, hK1, hD1⟩ := hB
        rw [ht] at hP1
        obtain ⟨hP, hD⟩ := va_join (wr := [(b0, .inr (2, [.int mcd, .int mwd, .int men, .ref bR, .ref bI, .ref bC, .ref bY, .ref bZ, .ref bF, .int mmd, .int mhi, .ref bL, .ref bN, .int mfr, .ref bX, .ref bT, .int mct, .int mtk])), (bR, .inl (cI, 32, .inl mR)), (bI, .inl (cI, 8192, .inl mI)), (bC, .inl (cI, 8192, .inl mC)), (bY, .inl (cZ, 8192, .inl mY)), (bZ, .inl (cI, 8192, .inl mZ)), (bF, .inl (cI, 8192, .inl mF)), (bL, .inl (cI, 65536, .inl mL)), (bN, .inl (cI, 65536, .inl mN)), (bX, .inl (cZ, 8192, .inl mX)), (bT, .inl (cI, 8192, .inl mT))]) (w1 := LHw cA a0 aR aM aW aP aS aC aO nW nE cL aL R_225 f us P S sc li rc rn ro rd st_225 ot) hP hD [0, 1, 2, 3, 4, 5, 6, 7, 19] [8, 9, 10, 11, 12, 13, 14, 15, 16, 17, 18] rfl rfl (by decide) (by decide) hk1 hFc hP1 hD1
        have hP := hP.sub (ws' := LMw cA a0 aR aM aW aP aS aC aO nW nE cI cZ b0 bR bI bC bY bZ bF bL bN bX bT cL aL R_225 f us P S sc li rc rn ro rd st_225 mcd mwd men mR mI mC mY mZ mF mmd mhi mL mN mfr mX mT mct mtk ot) [11, 12, 13, 14, 15, 16, 17, 18, 0, 1, 2, 3, 4, 5, 6, 7, 8, 9, 10, 19] rfl
        have hD := hD.sub (ws' := LMw cA a0 aR aM aW aP aS aC aO nW nE cI cZ b0 bR bI bC bY bZ bF bL bN bX bT cL aL R_225 f us P S sc li rc rn ro rd st_225 mcd mwd men mR mI mC mY mZ mF mmd mhi mL mN mfr mX mT mct mtk ot) [11, 12, 13, 14, 15, 16, 17, 18, 0, 1, 2, 3, 4, 5, 6, 7, 8, 9, 10, 19] (by decide) rfl
        generalize H1 = H at hP hS ⊢
        clear hPc hDc hKc hFc hP1 hD1 hK1 hk1
        try dsimp only at h
        refine lv_istore (lv' := [(5, .int r225), (0, .ref b), (1, .ref a0), (2, .ref b0), (3, .ref aL), (4, .int x4)]) hx hb d_L_law_228 hl (by decide) rfl (fun ls hl => ?_)
        refine lv_aload_n hx hb d_L_law_230 rfl (lv_at hl 3 rfl) ?_
        refine lv_aload_n hx hb d_L_law_231 rfl (lv_at hl 1 rfl) ?_
        refine lv_iload hx hb d_L_law_232 (lv_at hl 5 rfl) ?_
        refine lv_iconst (v := (1 : Int32)) hx hb d_L_law_234 (by decide) ?_
        refine lv_iadd hx hb d_L_law_235 ?_
        refine va_sld hx hb hX hbl hbA hS h.1 d_L_law_236 ?_
        have h := h.2
        refine lv_aload_n hx hb d_L_law_237 rfl (lv_at hl 1 rfl) ?_
        refine lv_iload hx hb d_L_law_238 (lv_at hl 5 rfl) ?_
        refine lv_iconst (v := (2 : Int32)) hx hb d_L_law_240 (by decide) ?_
        refine lv_iadd hx hb d_L_law_241 ?_
        refine va_sld hx hb hX hbl hbA hS h.1 d_L_law_242 ?_
        have h := h.2
        have hPc := hP.sub (ws' := RSw cI cZ b0 bR bI bC bY bZ bF bL bN bX bT mcd mwd men mR mI mC mY mZ mF mmd mhi mL mN mfr mX mT mct mtk) [8, 9, 10, 11, 12, 13, 14, 15, 16, 17, 18] rfl
        have hKc := hK.sub (tys' := [(cI, .int), (cZ, .boolean)]) [1, 2] rfl
        have hDc := hD.sub (ws' := RSw cI cZ b0 bR bI bC bY bZ bF bL bN bX bT mcd mwd men mR mI mC mY mZ mF mmd mhi mL mN mfr mX mT mct mtk) [8, 9, 10, 11, 12, 13, 14, 15, 16, 17, 18] (by decide) rfl
        have hFc := va_free (wc := RSw cI cZ b0 bR bI bC bY bZ bF bL bN bX bT mcd mwd men mR mI mC mY mZ mF mmd mhi mL mN mfr mX mT mct mtk) hD hS hA [8, 9, 10, 11, 12, 13, 14, 15, 16, 17, 18] rfl
        refine va_callv (va_runV (As := [.int (xs (x4 + (1 : Int32)).toNatClampNeg), .int (xs (x4 + (2 : Int32)).toNatClampNeg)]) (rest := []) ⟨hx, hb, hml, hown, hw⟩ (mR_move l dC dI cI cZ b0 bR bI bC bY bZ bF bL bN bX bT H.size mcd mwd men mR mI mC mY mZ mF mmd mhi mL mN mfr mX mT mct mtk (xs (x4 + (1 : Int32)).toNatClampNeg) (xs (x4 + (2 : Int32)).toNatClampNeg) _ h) (cwV 2 hw g_L_109 rfl rfl rfl (by decide +kernel) ⟨Nat.le_of_ble_eq_true rfl, Nat.le_of_ble_eq_true rfl⟩) (rw_PV (ci := 2) (q0 := 0) hKc hPc hDc rfl rfl) rfl rfl hl.1 rfl (lv_room (Nat.le_of_ble_eq_true rfl)) d_L_law_243 ⟨by show 20 + 8 * (513 - (n + 1)) + 2 + 0 ≤ 601024; omega, by show 286816 + 48 * (513 - (n + 1)) + 12 + 0 ≤ 7293000; omega⟩) hS (fun q _ h => hFc q h) hFc (fun u t H1 locs ht hvm h hB hz1 hk1 hS => ?_)
        obtain ⟨mcd_243, mR_243⟩ := u
        obtain ⟨hP1, hK1, hD1⟩ := hB
        rw [ht] at hP1
        obtain ⟨hP, hD⟩ := va_join (wr := [(a0, .inr (0, [.ref aR, .ref aM])), (aR, .inl (cA, 32, .inl R_225)), (aM, .inr (1, [.ref aW, .int us, .ref aP, .ref aS, .int sc, .int li, .ref aC, .int rn, .ref aO, .int rd, .int st_225])), (aW, .inl (cA, nW, .inl f)), (aP, .inl (cA, nE, .inl P)), (aS, .inl (cA, nE, .inl S)), (aC, .inl (cA, nE, .inl rc)), (aO, .inl (cA, nE, .inl ro)), (aL, .inl (cL, 1, .inr (.inl ot)))]) (w1 := RSw cI cZ b0 bR bI bC bY bZ bF bL bN bX bT mcd_243 mwd men mR_243 mI mC mY mZ mF mmd mhi mL mN mfr mX mT mct mtk) hP hD [8, 9, 10, 11, 12, 13, 14, 15, 16, 17, 18] [0, 1, 2, 3, 4, 5, 6, 7, 19] rfl rfl (by decide) (by decide) hk1 hFc hP1 hD1
        have hP := hP.sub (ws' := LMw cA a0 aR aM aW aP aS aC aO nW nE cI cZ b0 bR bI bC bY bZ bF bL bN bX bT cL aL R_225 f us P S sc li rc rn ro rd st_225 mcd_243 mwd men mR_243 mI mC mY mZ mF mmd mhi mL mN mfr mX mT mct mtk ot) [0, 1, 2, 3, 4, 5, 6, 7, 9, 10, 11, 12, 13, 14, 15, 16, 17, 18, 19, 8] rfl
        have hD := hD.sub (ws' := LMw cA a0 aR aM aW aP aS aC aO nW nE cI cZ b0 bR bI bC bY bZ bF bL bN bX bT cL aL R_225 f us P S sc li rc rn ro rd st_225 mcd_243 mwd men mR_243 mI mC mY mZ mF mmd mhi mL mN mfr mX mT mct mtk ot) [0, 1, 2, 3, 4, 5, 6, 7, 9, 10, 11, 12, 13, 14, 15, 16, 17, 18, 19, 8] (by decide) rfl
        generalize H1 = H at hP hS ⊢
        clear hPc hDc hKc hFc hP1 hD1 hK1 hk1
        try dsimp only at h
        refine lv_aload_n hx hb d_L_law_246 rfl (lv_at hl 3 rfl) ?_
        have hPc := hP.sub (ws' := RSw cI cZ b0 bR bI bC bY bZ bF bL bN bX bT mcd_243 mwd men mR_243 mI mC mY mZ mF mmd mhi mL mN mfr mX mT mct mtk) [8, 9, 10, 11, 12, 13, 14, 15, 16, 17, 18] rfl
        have hKc := hK.sub (tys' := [(cI, .int), (cZ, .boolean)]) [1, 2] rfl
        refine rq_calli (W.runV (As := []) (rest := []) ⟨hx, hb, hml, hown, hw⟩ (mR_thrown l dC dI cI cZ b0 bR bI bC bY bZ bF bL bN bX bT mcd_243 mwd men mR_243 mI mC mY mZ mF mmd mhi mL mN mfr mX mT mct mtk _ h) (cwV 0 hw g_L_103 rfl rfl rfl (by decide +kernel) ⟨Nat.le_of_ble_eq_true rfl, Nat.le_of_ble_eq_true rfl⟩) (ro_PV (ci := 2) (q0 := 0) hKc hPc rfl rfl) rfl rfl hl.1 rfl (lv_room (Nat.le_of_ble_eq_true rfl)) d_L_law_247 ⟨by show 20 + 8 * (513 - (n + 1)) + 2 + 0 + 0 ≤ 601024; omega, by show 286816 + 48 * (513 - (n + 1)) + 12 + 0 + 0 ≤ 7293000; omega⟩) (fun r247 h => ?_)
        clear hPc hKc
        refine lv_iload hx hb d_L_law_250 (lv_at hl 0 rfl) ?_
        refine lv_icmp_eq (tgt := 257) hx hb d_L_law_252 (by decide) (fun c_252 => ?_) (fun c_252 => ?_)
        · have h := h.1 c_252
          refine lv_goto (tgt := 1529) hx hb d_L_law_257 (by decide) ?_
          refine lv_iinc (v := x4 + (5 : Int32)) (lv' := [(4, .int (x4 + (5 : Int32))), (5, .int r225), (0, .ref b), (1, .ref a0), (2, .ref b0), (3, .ref aL)]) hx hb d_L_law_1529 hl (k := 5) rfl rfl (by decide) rfl (fun ls hl => ?_)
          refine lv_goto (tgt := 43) hx hb d_L_law_1532 (by decide) ?_
          refine W.widen (k := 20 + 8 * (513 - n)) (n := 286816 + 48 * (513 - n)) (by omega) (by omega) ?_
          exact ih (by omega) (x4 + (5 : Int32)) R_225 f us P S sc li rc rn ro rd st_225 mcd_243 mwd men mR_243 mI mC mY mZ mF mmd mhi mL mN mfr mX mT mct mtk ot H locs ls hP hD hS (lv_sub hl [2, 3, 4, 5, 0] rfl) h
        · have h := h.2 c_252
          refine lv_iconst (v := (0 : Int32)) hx hb d_L_law_255 (by decide) ?_
          exact h.elim
      · refine lv_tableIn (tgt := 260) hx hb d_L_law_59 (by decide) (by decide) rfl (by decide) ?_
        have h := h.2.2.1 rfl
        refine lv_aload_n hx hb d_L_law_260 rfl (lv_at hl 1 rfl) ?_
        refine lv_aload_n hx hb d_L_law_261 rfl (lv_at hl 0 rfl) ?_
        refine lv_iload hx hb d_L_law_262 (lv_at hl 4 rfl) ?_
        refine lv_iconst (v := (1 : Int32)) hx hb d_L_law_264 (by decide) ?_
        refine lv_iadd hx hb d_L_law_265 ?_
        refine va_sld hx hb hX hbl hbA hS h.1 d_L_law_266 ?_
        have h := h.2
        have hPc := hP.sub (ws' := LHw cA a0 aR aM aW aP aS aC aO nW nE cL aL R f us P S sc li rc rn ro rd st ot) [0, 1, 2, 3, 4, 5, 6, 7, 19] rfl
        have hKc := hK.sub (tys' := [(cA, .int), (cL, .long)]) [0, 3] rfl
        have hDc := hD.sub (ws' := LHw cA a0 aR aM aW aP aS aC aO nW nE cL aL R f us P S sc li rc rn ro rd st ot) [0, 1, 2, 3, 4, 5, 6, 7, 19] (by decide) rfl
        have hFc := va_free (wc := LHw cA a0 aR aM aW aP aS aC aO nW nE cL aL R f us P S sc li rc rn ro rd st ot) hD hS hA [0, 1, 2, 3, 4, 5, 6, 7, 19] rfl
        refine va_calli (vx_runSW (As := [.ref a0, .int (xs (x4 + (1 : Int32)).toNatClampNeg)]) (rest := []) ⟨hx, hb, hml, hown, hw⟩ (mL_clear l hlT sa dC dI cA a0 aR aM aW aP aS aC aO nW nE cL aL H.size R f us P S sc li rc rn ro rd st ot (xs (x4 + (1 : Int32)).toNatClampNeg) _ h) (vx_cwSW 2 hw g_L_110 rfl rfl rfl (by decide +kernel) ⟨Nat.le_of_ble_eq_true rfl, Nat.le_of_ble_eq_true rfl⟩) (xh_PS hKc hPc hDc (xt_at hXT hS) hFc hNC) rfl rfl hl.1 rfl (lv_room (Nat.le_of_ble_eq_true rfl)) d_L_law_267 ⟨by show 20 + 8 * (513 - (n + 1)) + 1 ≤ 601024; omega, by show 286816 + 48 * (513 - (n + 1)) + 6 ≤ 7293000; omega⟩) hS (fun q _ h => hFc q h) hFc (fun r267 u t H1 locs ht hvm h hB hz1 hk1 hS => ?_)
        obtain ⟨R_267, st_267⟩ := u
        obtain ⟨hP1, hK1, hD1⟩ := hB
        rw [ht] at hP1
        obtain ⟨hP, hD⟩ := va_join (wr := [(b0, .inr (2, [.int mcd, .int mwd, .int men, .ref bR, .ref bI, .ref bC, .ref bY, .ref bZ, .ref bF, .int mmd, .int mhi, .ref bL, .ref bN, .int mfr, .ref bX, .ref bT, .int mct, .int mtk])), (bR, .inl (cI, 32, .inl mR)), (bI, .inl (cI, 8192, .inl mI)), (bC, .inl (cI, 8192, .inl mC)), (bY, .inl (cZ, 8192, .inl mY)), (bZ, .inl (cI, 8192, .inl mZ)), (bF, .inl (cI, 8192, .inl mF)), (bL, .inl (cI, 65536, .inl mL)), (bN, .inl (cI, 65536, .inl mN)), (bX, .inl (cZ, 8192, .inl mX)), (bT, .inl (cI, 8192, .inl mT))]) (w1 := LHw cA a0 aR aM aW aP aS aC aO nW nE cL aL R_267 f us P S sc li rc rn ro rd st_267 ot) hP hD [0, 1, 2, 3, 4, 5, 6, 7, 19] [8, 9, 10, 11, 12, 13, 14, 15, 16, 17, 18] rfl rfl (by decide) (by decide) hk1 hFc hP1 hD1
        have hP := hP.sub (ws' := LMw cA a0 aR aM aW aP aS aC aO nW nE cI cZ b0 bR bI bC bY bZ bF bL bN bX bT cL aL R_267 f us P S sc li rc rn ro rd st_267 mcd mwd men mR mI mC mY mZ mF mmd mhi mL mN mfr mX mT mct mtk ot) [11, 12, 13, 14, 15, 16, 17, 18, 0, 1, 2, 3, 4, 5, 6, 7, 8, 9, 10, 19] rfl
        have hD := hD.sub (ws' := LMw cA a0 aR aM aW aP aS aC aO nW nE cI cZ b0 bR bI bC bY bZ bF bL bN bX bT cL aL R_267 f us P S sc li rc rn ro rd st_267 mcd mwd men mR mI mC mY mZ mF mmd mhi mL mN mfr mX mT mct mtk ot) [11, 12, 13, 14, 15, 16, 17, 18, 0, 1, 2, 3, 4, 5, 6, 7, 8, 9, 10, 19] (by decide) rfl
        generalize H1 = H at hP hS ⊢
        clear hPc hDc hKc hFc hP1 hD1 hK1 hk1
        try dsimp only at h
        refine lv_istore (lv' := [(5, .int r267), (0, .ref b), (1, .ref a0), (2, .ref b0), (3, .ref aL), (4, .int x4)]) hx hb d_L_law_270 hl (by decide) rfl (fun ls hl => ?_)
        refine lv_aload_n hx hb d_L_law_272 rfl (lv_at hl 3 rfl) ?_
        refine lv_aload_n hx hb d_L_law_273 rfl (lv_at hl 1 rfl) ?_
        refine lv_iload hx hb d_L_law_274 (lv_at hl 5 rfl) ?_
        refine lv_iconst (v := (1 : Int32)) hx hb d_L_law_276 (by decide) ?_
        refine lv_iadd hx hb d_L_law_277 ?_
        refine va_sld hx hb hX hbl hbA hS h.1 d_L_law_278 ?_
        have h := h.2
        have hPc := hP.sub (ws' := RSw cI cZ b0 bR bI bC bY bZ bF bL bN bX bT mcd mwd men mR mI mC mY mZ mF mmd mhi mL mN mfr mX mT mct mtk) [8, 9, 10, 11, 12, 13, 14, 15, 16, 17, 18] rfl
        have hKc := hK.sub (tys' := [(cI, .int), (cZ, .boolean)]) [1, 2] rfl
        have hDc := hD.sub (ws' := RSw cI cZ b0 bR bI bC bY bZ bF bL bN bX bT mcd mwd men mR mI mC mY mZ mF mmd mhi mL mN mfr mX mT mct mtk) [8, 9, 10, 11, 12, 13, 14, 15, 16, 17, 18] (by decide) rfl
        have hFc := va_free (wc := RSw cI cZ b0 bR bI bC bY bZ bF bL bN bX bT mcd mwd men mR mI mC mY mZ mF mmd mhi mL mN mfr mX mT mct mtk) hD hS hA [8, 9, 10, 11, 12, 13, 14, 15, 16, 17, 18] rfl
        refine va_callv (va_runV (As := [.int (xs (x4 + (1 : Int32)).toNatClampNeg)]) (rest := []) ⟨hx, hb, hml, hown, hw⟩ (mR_clear l dC dI cI cZ b0 bR bI bC bY bZ bF bL bN bX bT H.size mcd mwd men mR mI mC mY mZ mF mmd mhi mL mN mfr mX mT mct mtk (xs (x4 + (1 : Int32)).toNatClampNeg) _ h) (cwV 1 hw g_L_113 rfl rfl rfl (by decide +kernel) ⟨Nat.le_of_ble_eq_true rfl, Nat.le_of_ble_eq_true rfl⟩) (rw_PV (ci := 2) (q0 := 0) hKc hPc hDc rfl rfl) rfl rfl hl.1 rfl (lv_room (Nat.le_of_ble_eq_true rfl)) d_L_law_279 ⟨by show 20 + 8 * (513 - (n + 1)) + 1 + 0 ≤ 601024; omega, by show 286816 + 48 * (513 - (n + 1)) + 6 + 0 ≤ 7293000; omega⟩) hS (fun q _ h => hFc q h) hFc (fun u t H1 locs ht hvm h hB hz1 hk1 hS => ?_)
        obtain ⟨mcd_279, mR_279⟩ := u
        obtain ⟨hP1, hK1, hD1⟩ := hB
        rw [ht] at hP1
        obtain ⟨hP, hD⟩ := va_join (wr := [(a0, .inr (0, [.ref aR, .ref aM])), (aR, .inl (cA, 32, .inl R_267)), (aM, .inr (1, [.ref aW, .int us, .ref aP, .ref aS, .int sc, .int li, .ref aC, .int rn, .ref aO, .int rd, .int st_267])), (aW, .inl (cA, nW, .inl f)), (aP, .inl (cA, nE, .inl P)), (aS, .inl (cA, nE, .inl S)), (aC, .inl (cA, nE, .inl rc)), (aO, .inl (cA, nE, .inl ro)), (aL, .inl (cL, 1, .inr (.inl ot)))]) (w1 := RSw cI cZ b0 bR bI bC bY bZ bF bL bN bX bT mcd_279 mwd men mR_279 mI mC mY mZ mF mmd mhi mL mN mfr mX mT mct mtk) hP hD [8, 9, 10, 11, 12, 13, 14, 15, 16, 17, 18] [0, 1, 2, 3, 4, 5, 6, 7, 19] rfl rfl (by decide) (by decide) hk1 hFc hP1 hD1
        have hP := hP.sub (ws' := LMw cA a0 aR aM aW aP aS aC aO nW nE cI cZ b0 bR bI bC bY bZ bF bL bN bX bT cL aL R_267 f us P S sc li rc rn ro rd st_267 mcd_279 mwd men mR_279 mI mC mY mZ mF mmd mhi mL mN mfr mX mT mct mtk ot) [0, 1, 2, 3, 4, 5, 6, 7, 9, 10, 11, 12, 13, 14, 15, 16, 17, 18, 19, 8] rfl
        have hD := hD.sub (ws' := LMw cA a0 aR aM aW aP aS aC aO nW nE cI cZ b0 bR bI bC bY bZ bF bL bN bX bT cL aL R_267 f us P S sc li rc rn ro rd st_267 mcd_279 mwd men mR_279 mI mC mY mZ mF mmd mhi mL mN mfr mX mT mct mtk ot) [0, 1, 2, 3, 4, 5, 6, 7, 9, 10, 11, 12, 13, 14, 15, 16, 17, 18, 19, 8] (by decide) rfl
        generalize H1 = H at hP hS ⊢
        clear hPc hDc hKc hFc hP1 hD1 hK1 hk1
        try dsimp only at h
        refine lv_aload_n hx hb d_L_law_282 rfl (lv_at hl 3 rfl) ?_
        have hPc := hP.sub (ws' := RSw cI cZ b0 bR bI bC bY bZ bF bL bN bX bT mcd_279 mwd men mR_279 mI mC mY mZ mF mmd mhi mL mN mfr mX mT mct mtk) [8, 9, 10, 11, 12, 13, 14, 15, 16, 17, 18] rfl
        have hKc := hK.sub (tys' := [(cI, .int), (cZ, .boolean)]) [1, 2] rfl
        refine rq_calli (W.runV (As := []) (rest := []) ⟨hx, hb, hml, hown, hw⟩ (mR_thrown l dC dI cI cZ b0 bR bI bC bY bZ bF bL bN bX bT mcd_279 mwd men mR_279 mI mC mY mZ mF mmd mhi mL mN mfr mX mT mct mtk _ h) (cwV 0 hw g_L_103 rfl rfl rfl (by decide +kernel) ⟨Nat.le_of_ble_eq_true rfl, Nat.le_of_ble_eq_true rfl⟩) (ro_PV (ci := 2) (q0 := 0) hKc hPc rfl rfl) rfl rfl hl.1 rfl (lv_room (Nat.le_of_ble_eq_true rfl)) d_L_law_283 ⟨by show 20 + 8 * (513 - (n + 1)) + 1 + 0 + 0 ≤ 601024; omega, by show 286816 + 48 * (513 - (n + 1)) + 6 + 0 + 0 ≤ 7293000; omega⟩) (fun r283 h => ?_)
        clear hPc hKc
        refine lv_iload hx hb d_L_law_286 (lv_at hl 0 rfl) ?_
        refine lv_icmp_eq (tgt := 293) hx hb d_L_law_288 (by decide) (fun c_288 => ?_) (fun c_288 => ?_)
        · have h := h.1 c_288
          refine lv_goto (tgt := 1529) hx hb d_L_law_293 (by decide) ?_
          refine lv_iinc (v := x4 + (5 : Int32)) (lv' := [(4, .int (x4 + (5 : Int32))), (5, .int r267), (0, .ref b), (1, .ref a0), (2, .ref b0), (3, .ref aL)]) hx hb d_L_law_1529 hl (k := 5) rfl rfl (by decide) rfl (fun ls hl => ?_)
          refine lv_goto (tgt := 43) hx hb d_L_law_1532 (by decide) ?_
          refine W.widen (k := 20 + 8 * (513 - n)) (n := 286816 + 48 * (513 - n)) (by omega) (by omega) ?_
          exact ih (by omega) (x4 + (5 : Int32)) R_267 f us P S sc li rc rn ro rd st_267 mcd_279 mwd men mR_279 mI mC mY mZ mF mmd mhi mL mN mfr mX mT mct mtk ot H locs ls hP hD hS (lv_sub hl [2, 3, 4, 5, 0] rfl) h
        · have h := h.2 c_288
          refine lv_iconst (v := (0 : Int32)) hx hb d_L_law_291 (by decide) ?_
          exact h.elim
      · refine lv_tableIn (tgt := 296) hx hb d_L_law_59 (by decide) (by decide) rfl (by decide) ?_
        have h := h.2.2.2.1 rfl
        refine lv_aload_n hx hb d_L_law_296 rfl (lv_at hl 1 rfl) ?_
        refine lv_aload_n hx hb d_L_law_297 rfl (lv_at hl 0 rfl) ?_
        refine lv_iload hx hb d_L_law_298 (lv_at hl 4 rfl) ?_
        refine lv_iconst (v := (1 : Int32)) hx hb d_L_law_300 (by decide) ?_
        refine lv_iadd hx hb d_L_law_301 ?_
        refine va_sld hx hb hX hbl hbA hS h.1 d_L_law_302 ?_
        have h := h.2
        refine lv_aload_n hx hb d_L_law_303 rfl (lv_at hl 0 rfl) ?_
        refine lv_iload hx hb d_L_law_304 (lv_at hl 4 rfl) ?_
        refine lv_iconst (v := (2 : Int32)) hx hb d_L_law_306 (by decide) ?_
        refine lv_iadd hx hb d_L_law_307 ?_
        refine va_sld hx hb hX hbl hbA hS h.1 d_L_law_308 ?_
        have h := h.2
        refine lv_aload_n hx hb d_L_law_309 rfl (lv_at hl 0 rfl) ?_
        refine lv_iload hx hb d_L_law_310 (lv_at hl 4 rfl) ?_
        refine lv_iconst (v := (3 : Int32)) hx hb d_L_law_312 (by decide) ?_
        refine lv_iadd hx hb d_L_law_313 ?_
        refine va_sld hx hb hX hbl hbA hS h.1 d_L_law_314 ?_
        have h := h.2
        refine lv_aload_n hx hb d_L_law_315 rfl (lv_at hl 0 rfl) ?_
        refine lv_iload hx hb d_L_law_316 (lv_at hl 4 rfl) ?_
        refine lv_iconst (v := (4 : Int32)) hx hb d_L_law_318 (by decide) ?_
        refine lv_iadd hx hb d_L_law_319 ?_
        refine va_sld hx hb hX hbl hbA hS h.1 d_L_law_320 ?_
        have h := h.2
        refine lv_if_eq (tgt := 328) hx hb d_L_law_321 (by decide) (fun c_321 => ?_) (fun c_321 => ?_)
        · have h := h.1 c_321
          refine lv_iconst (v := (0 : Int32)) hx hb d_L_law_328 (by decide) ?_
          refine lv_aload_n hx hb d_L_law_329 rfl (lv_at hl 3 rfl) ?_
          have hPc := hP.sub (ws' := LHw cA a0 aR aM aW aP aS aC aO nW nE cL aL R f us P S sc li rc rn ro rd st ot) [0, 1, 2, 3, 4, 5, 6, 7, 19] rfl
          have hKc := hK.sub (tys' := [(cA, .int), (cL, .long)]) [0, 3] rfl
          have hDc := hD.sub (ws' := LHw cA a0 aR aM aW aP aS aC aO nW nE cL aL R f us P S sc li rc rn ro rd st ot) [0, 1, 2, 3, 4, 5, 6, 7, 19] (by decide) rfl
          have hFc := va_free (wc := LHw cA a0 aR aM aW aP aS aC aO nW nE cL aL R f us P S sc li rc rn ro rd st ot) hD hS hA [0, 1, 2, 3, 4, 5, 6, 7, 19] rfl
          refine va_calli (vx_runSW (As := [.ref a0, .int (xs (x4 + (1 : Int32)).toNatClampNeg), .int (xs (x4 + (2 : Int32)).toNatClampNeg), .int (xs (x4 + (3 : Int32)).toNatClampNeg), .int (0 : Int32), .ref aL]) (rest := []) ⟨hx, hb, hml, hown, hw⟩ (mL_make l hlT sa dC dI cA a0 aR aM aW aP aS aC aO nW nE cL aL H.size R f us P S sc li rc rn ro rd st ot (xs (x4 + (1 : Int32)).toNatClampNeg) (xs (x4 + (2 : Int32)).toNatClampNeg) (xs (x4 + (3 : Int32)).toNatClampNeg) (0 : Int32) _ h) (vx_cwSW 6 hw g_L_114 rfl rfl rfl (by decide +kernel) ⟨Nat.le_of_ble_eq_true rfl, Nat.le_of_ble_eq_true rfl⟩) (xh_PS hKc hPc hDc (xt_at hXT hS) hFc hNC) rfl rfl hl.1 rfl (lv_room (Nat.le_of_ble_eq_true rfl)) d_L_law_330 ⟨by show 20 + 8 * (513 - (n + 1)) + 4 ≤ 601024; omega, by show 286816 + 48 * (513 - (n + 1)) + 24 ≤ 7293000; omega⟩) hS (fun q _ h => hFc q h) hFc (fun r330 u t H1 locs ht hvm h hB hz1 hk1 hS => ?_)
          obtain ⟨R_330, f_330, us_330, P_330, S_330, sc_330, li_330, rc_330, rn_330, ro_330, rd_330, st_330, ot_330⟩ := u
          obtain ⟨hP1, hK1, hD1⟩ := hB
          rw [ht] at hP1
          obtain ⟨hP, hD⟩ := va_join (wr := [(b0, .inr (2, [.int mcd, .int mwd, .int men, .ref bR, .ref bI, .ref bC, .ref bY, .ref bZ, .ref bF, .int mmd, .int mhi, .ref bL, .ref bN, .int mfr, .ref bX, .ref bT, .int mct, .int mtk])), (bR, .inl (cI, 32, .inl mR)), (bI, .inl (cI, 8192, .inl mI)), (bC, .inl (cI, 8192, .inl mC)), (bY, .inl (cZ, 8192, .inl mY)), (bZ, .inl (cI, 8192, .inl mZ)), (bF, .inl (cI, 8192, .inl mF)), (bL, .inl (cI, 65536, .inl mL)), (bN, .inl (cI, 65536, .inl mN)), (bX, .inl (cZ, 8192, .inl mX)), (bT, .inl (cI, 8192, .inl mT))]) (w1 := LHw cA a0 aR aM aW aP aS aC aO nW nE cL aL R_330 f_330 us_330 P_330 S_330 sc_330 li_330 rc_330 rn_330 ro_330 rd_330 st_330 ot_330) hP hD [0, 1, 2, 3, 4, 5, 6, 7, 19] [8, 9, 10, 11, 12, 13, 14, 15, 16, 17, 18] rfl rfl (by decide) (by decide) hk1 hFc hP1 hD1
          have hP := hP.sub (ws' := LMw cA a0 aR aM aW aP aS aC aO nW nE cI cZ b0 bR bI bC bY bZ bF bL bN bX bT cL aL R_330 f_330 us_330 P_330 S_330 sc_330 li_330 rc_330 rn_330 ro_330 rd_330 st_330 mcd mwd men mR mI mC mY mZ mF mmd mhi mL mN mfr mX mT mct mtk ot_330) [11, 12, 13, 14, 15, 16, 17, 18, 0, 1, 2, 3, 4, 5, 6, 7, 8, 9, 10, 19] rfl
          have hD := hD.sub (ws' := LMw cA a0 aR aM aW aP aS aC aO nW nE cI cZ b0 bR bI bC bY bZ bF bL bN bX bT cL aL R_330 f_330 us_330 P_330 S_330 sc_330 li_330 rc_330 rn_330 ro_330 rd_330 st_330 mcd mwd men mR mI mC mY mZ mF mmd mhi mL mN mfr mX mT mct mtk ot_330) [11, 12, 13, 14, 15, 16, 17, 18, 0, 1, 2, 3, 4, 5, 6, 7, 8, 9, 10, 19] (by decide) rfl
          generalize H1 = H at hP hS ⊢
          clear hPc hDc hKc hFc hP1 hD1 hK1 hk1
          try dsimp only at h
          refine lv_istore (lv' := [(5, .int r330), (0, .ref b), (1, .ref a0), (2, .ref b0), (3, .ref aL), (4, .int x4)]) hx hb d_L_law_333 hl (by decide) rfl (fun ls hl => ?_)
          refine lv_aload_n hx hb d_L_law_335 rfl (lv_at hl 3 rfl) ?_
          refine lv_aload_n hx hb d_L_law_336 rfl (lv_at hl 1 rfl) ?_
          refine lv_iload hx hb d_L_law_337 (lv_at hl 5 rfl) ?_
          refine lv_iconst (v := (1 : Int32)) hx hb d_L_law_339 (by decide) ?_
          refine lv_iadd hx hb d_L_law_340 ?_
          refine va_sld hx hb hX hbl hbA hS h.1 d_L_law_341 ?_
          have h := h.2
          refine lv_aload_n hx hb d_L_law_342 rfl (lv_at hl 1 rfl) ?_
          refine lv_iload hx hb d_L_law_343 (lv_at hl 5 rfl) ?_
          refine lv_iconst (v := (2 : Int32)) hx hb d_L_law_345 (by decide) ?_
          refine lv_iadd hx hb d_L_law_346 ?_
          refine va_sld hx hb hX hbl hbA hS h.1 d_L_law_347 ?_
          have h := h.2
          refine lv_aload_n hx hb d_L_law_348 rfl (lv_at hl 1 rfl) ?_
          refine lv_iload hx hb d_L_law_349 (lv_at hl 5 rfl) ?_
          refine lv_iconst (v := (3 : Int32)) hx hb d_L_law_351 (by decide) ?_
          refine lv_iadd hx hb d_L_law_352 ?_
          refine va_sld hx hb hX hbl hbA hS h.1 d_L_law_353 ?_
          have h := h.2
          refine lv_aload_n hx hb d_L_law_354 rfl (lv_at hl 1 rfl) ?_
          refine lv_iload hx hb d_L_law_355 (lv_at hl 5 rfl) ?_
          refine lv_iconst (v := (4 : Int32)) hx hb d_L_law_357 (by decide) ?_
          refine lv_iadd hx hb d_L_law_358 ?_
          refine va_sld hx hb hX hbl hbA hS h.1 d_L_law_359 ?_
          have h := h.2
          refine lv_if_eq (tgt := 367) hx hb d_L_law_360 (by decide) (fun c_360 => ?_) (fun c_360 => ?_)
          · have h := h.1 c_360
            refine lv_iconst (v := (0 : Int32)) hx hb d_L_law_367 (by decide) ?_
            have hPc := hP.sub (ws' := RSw cI cZ b0 bR bI bC bY bZ bF bL bN bX bT mcd mwd men mR mI mC mY mZ mF mmd mhi mL mN mfr mX mT mct mtk) [8, 9, 10, 11, 12, 13, 14, 15, 16, 17, 18] rfl
            have hKc := hK.sub (tys' := [(cI, .int), (cZ, .boolean)]) [1, 2] rfl
            have hDc := hD.sub (ws' := RSw cI cZ b0 bR bI bC bY bZ bF bL bN bX bT mcd mwd men mR mI mC mY mZ mF mmd mhi mL mN mfr mX mT mct mtk) [8, 9, 10, 11, 12, 13, 14, 15, 16, 17, 18] (by decide) rfl
            have hFc := va_free (wc := RSw cI cZ b0 bR bI bC bY bZ bF bL bN bX bT mcd mwd men mR mI mC mY mZ mF mmd mhi mL mN mfr mX mT mct mtk) hD hS hA [8, 9, 10, 11, 12, 13, 14, 15, 16, 17, 18] rfl
            refine va_calli (va_runV (As := [.int (xs (x4 + (1 : Int32)).toNatClampNeg), .int (xs (x4 + (2 : Int32)).toNatClampNeg), .int (xs (x4 + (3 : Int32)).toNatClampNeg), .int (0 : Int32)]) (rest := []) ⟨hx, hb, hml, hown, hw⟩ (mR_make l dC dI cI cZ b0 bR bI bC bY bZ bF bL bN bX bT H.size mcd mwd men mR mI mC mY mZ mF mmd mhi mL mN mfr mX mT mct mtk (xs (x4 + (1 : Int32)).toNatClampNeg) (xs (x4 + (2 : Int32)).toNatClampNeg) (xs (x4 + (3 : Int32)).toNatClampNeg) (0 : Int32) _ h) (cwV 4 hw g_L_117 rfl rfl rfl (by decide +kernel) ⟨Nat.le_of_ble_eq_true rfl, Nat.le_of_ble_eq_true rfl⟩) (rw_PV (ci := 2) (q0 := 0) hKc hPc hDc rfl rfl) rfl rfl hl.1 rfl (lv_room (Nat.le_of_ble_eq_true rfl)) d_L_law_368 ⟨by show 20 + 8 * (513 - (n + 1)) + 4 + 0 ≤ 601024; omega, by show 286816 + 48 * (513 - (n + 1)) + 24 + 0 ≤ 7293000; omega⟩) hS (fun q _ h => hFc q h) hFc (fun r368 u t H1 locs ht hvm h hB hz1 hk1 hS => ?_)
            obtain ⟨mcd_368, mR_368, mI_368, mC_368, mY_368, mZ_368, mF_368, mmd_368, mhi_368, mL_368, mN_368, mfr_368, mX_368, mT_368, mct_368, mtk_368⟩ := u
            obtain ⟨hP1, hK1, hD1⟩ := hB
            rw [ht] at hP1
            obtain ⟨hP, hD⟩ := va_join (wr := [(a0, .inr (0, [.ref aR, .ref aM])), (aR, .inl (cA, 32, .inl R_330)), (aM, .inr (1, [.ref aW, .int us_330, .ref aP, .ref aS, .int sc_330, .int li_330, .ref aC, .int rn_330, .ref aO, .int rd_330, .int st_330])), (aW, .inl (cA, nW, .inl f_330)), (aP, .inl (cA, nE, .inl P_330)), (aS, .inl (cA, nE, .inl S_330)), (aC, .inl (cA, nE, .inl rc_330)), (aO, .inl (cA, nE, .inl ro_330)), (aL, .inl (cL, 1, .inr (.inl ot_330)))]) (w1 := RSw cI cZ b0 bR bI bC bY bZ bF bL bN bX bT mcd_368 mwd men mR_368 mI_368 mC_368 mY_368 mZ_368 mF_368 mmd_368 mhi_368 mL_368 mN_368 mfr_368 mX_368 mT_368 mct_368 mtk_368) hP hD [8, 9, 10, 11, 12, 13, 14, 15, 16, 17, 18] [0, 1, 2, 3, 4, 5, 6, 7, 19] rfl rfl (by decide) (by decide) hk1 hFc hP1 hD1
            have hP := hP.sub (ws' := LMw cA a0 aR aM aW aP aS aC aO nW nE cI cZ b0 bR bI bC bY bZ bF bL bN bX bT cL aL R_330 f_330 us_330 P_330 S_330 sc_330 li_330 rc_330 rn_330 ro_330 rd_330 st_330 mcd_368 mwd men mR_368 mI_368 mC_368 mY_368 mZ_368 mF_368 mmd_368 mhi_368 mL_368 mN_368 mfr_368 mX_368 mT_368 mct_368 mtk_368 ot_330) [0, 1, 2, 3, 4, 5, 6, 7, 9, 10, 11, 12, 13, 14, 15, 16, 17, 18, 19, 8] rfl
            have hD := hD.sub (ws' := LMw cA a0 aR aM aW aP aS aC aO nW nE cI cZ b0 bR bI bC bY bZ bF bL bN bX bT cL aL R_330 f_330 us_330 P_330 S_330 sc_330 li_330 rc_330 rn_330 ro_330 rd_330 st_330 mcd_368 mwd men mR_368 mI_368 mC_368 mY_368 mZ_368 mF_368 mmd_368 mhi_368 mL_368 mN_368 mfr_368 mX_368 mT_368 mct_368 mtk_368 ot_330) [0, 1, 2, 3, 4, 5, 6, 7, 9, 10, 11, 12, 13, 14, 15, 16, 17, 18, 19, 8] (by decide) rfl
            generalize H1 = H at hP hS ⊢
            clear hPc hDc hKc hFc hP1 hD1 hK1 hk1
            try dsimp only at h
            refine lv_istore (lv' := [(6, .int r368), (5, .int r330), (0, .ref b), (1, .ref a0), (2, .ref b0), (3, .ref aL), (4, .int x4)]) hx hb d_L_law_371 hl (by decide) rfl (fun ls hl => ?_)
            refine lv_aload_n hx hb d_L_law_373 rfl (lv_at hl 4 rfl) ?_
            have hPc := hP.sub (ws' := RSw cI cZ b0 bR bI bC bY bZ bF bL bN bX bT mcd_368 mwd men mR_368 mI_368 mC_368 mY_368 mZ_368 mF_368 mmd_368 mhi_368 mL_368 mN_368 mfr_368 mX_368 mT_368 mct_368 mtk_368) [8, 9, 10, 11, 12, 13, 14, 15, 16, 17, 18] rfl
            have hKc := hK.sub (tys' := [(cI, .int), (cZ, .boolean)]) [1, 2] rfl
            refine rq_calli (W.runV (As := []) (rest := []) ⟨hx, hb, hml, hown, hw⟩ (mR_thrown l dC dI cI cZ b0 bR bI bC bY bZ bF bL bN bX bT mcd_368 mwd men mR_368 mI_368 mC_368 mY_368 mZ_368 mF_368 mmd_368 mhi_368 mL_368 mN_368 mfr_368 mX_368 mT_368 mct_368 mtk_368 _ h) (cwV 0 hw g_L_103 rfl rfl rfl (by decide +kernel) ⟨Nat.le_of_ble_eq_true rfl, Nat.le_of_ble_eq_true rfl⟩) (ro_PV (ci := 2) (q0 := 0) hKc hPc rfl rfl) rfl rfl hl.1 rfl (lv_room (Nat.le_of_ble_eq_true rfl)) d_L_law_374 ⟨by show 20 + 8 * (513 - (n + 1)) + 4 + 0 + 0 ≤ 601024; omega, by show 286816 + 48 * (513 - (n + 1)) + 24 + 0 + 0 ≤ 7293000; omega⟩) (fun r374 h => ?_)
            clear hPc hKc
            refine lv_iload hx hb d_L_law_377 (lv_at hl 1 rfl) ?_
            refine lv_icmp_eq (tgt := 384) hx hb d_L_law_379 (by decide) (fun c_379 => ?_) (fun c_379 => ?_)
            · have h := h.1 c_379
              refine lv_iload hx hb d_L_law_384 (lv_at hl 1 rfl) ?_
              refine lv_if_ne (tgt := 401) hx hb d_L_law_386 (by decide) (fun c_386 => ?_) (fun c_386 => ?_)
              · have h := h.2 c_386
                refine lv_goto (tgt := 1529) hx hb d_L_law_401 (by decide) ?_
                refine lv_iinc (v := x4 + (5 : Int32)) (lv' := [(4, .int (x4 + (5 : Int32))), (6, .int r368), (5, .int r330), (0, .ref b), (1, .ref a0), (2, .ref b0), (3, .ref aL)]) hx hb d_L_law_1529 hl (k := 6) rfl rfl (by decide) rfl (fun ls hl => ?_)
                refine lv_goto (tgt := 43) hx hb d_L_law_1532 (by decide) ?_
                refine W.widen (k := 20 + 8 * (513 - n)) (n := 286816 + 48 * (513 - n)) (by omega) (by omega) ?_
                exact ih (by omega) (x4 + (5 : Int32)) R_330 f_330 us_330 P_330 S_330 sc_330 li_330 rc_330 rn_330 ro_330 rd_330 st_330 mcd_368 mwd men mR_368 mI_368 mC_368 mY_368 mZ_368 mF_368 mmd_368 mhi_368 mL_368 mN_368 mfr_368 mX_368 mT_368 mct_368 mtk_368 ot_330 H locs ls hP hD hS (lv_sub hl [3, 4, 5, 6, 0] rfl) h
              · have h := h.1 c_386
                refine lv_aload_n hx hb d_L_law_389 rfl (lv_at hl 5 rfl) ?_
                refine lv_iconst (v := (0 : Int32)) hx hb d_L_law_390 (by decide) ?_
                refine va_lald hx hb hK hP 19 3 rfl rfl h.1 d_L_law_391 ?_
                have h := h.2
                refine lv_iload hx hb d_L_law_392 (lv_at hl 0 rfl) ?_
                refine lv_i2l (v := r368.toInt64) hx hb d_L_law_394 rfl ?_
                refine W.lcmp hx hb d_L_law_395 ?_
                refine lv_if_eq (tgt := 401) hx hb d_L_law_396 (by decide) (fun c_396 => ?_) (fun c_396 => ?_)
                · have h := h.1 c_396
                  refine lv_goto (tgt := 1529) hx hb d_L_law_401 (by decide) ?_
                  refine lv_iinc (v := x4 + (5 : Int32)) (lv' := [(4, .int (x4 + (5 : Int32))), (6, .int r368), (5, .int r330), (0, .ref b), (1, .ref a0), (2, .ref b0), (3, .ref aL)]) hx hb d_L_law_1529 hl (k := 6) rfl rfl (by decide) rfl (fun ls hl => ?_)
                  refine lv_goto (tgt := 43) hx hb d_L_law_1532 (by decide) ?_
                  refine W.widen (k := 20 + 8 * (513 - n)) (n := 286816 + 48 * (513 - n)) (by omega) (by omega) ?_
                  exact ih (by omega) (x4 + (5 : Int32)) R_330 f_330 us_330 P_330 S_330 sc_330 li_330 rc_330 rn_330 ro_330 rd_330 st_330 mcd_368 mwd men mR_368 mI_368 mC_368 mY_368 mZ_368 mF_368 mmd_368 mhi_368 mL_368 mN_368 mfr_368 mX_368 mT_368 mct_368 mtk_368 ot_330 H locs ls hP hD hS (lv_sub hl [3, 4, 5, 6, 0] rfl) h
                · have h := h.2 c_396
                  refine lv_iconst (v := (0 : Int32)) hx hb d_L_law_399 (by decide) ?_
                  exact h.elim
            · have h := h.2 c_379
              refine lv_iconst (v := (0 : Int32)) hx hb d_L_law_382 (by decide) ?_
              exact h.elim
          · have h := h.2 c_360
            refine lv_iconst (v := (1 : Int32)) hx hb d_L_law_363 (by decide) ?_
            refine lv_goto (tgt := 368) hx hb d_L_law_364 (by decide) ?_
            have hPc := hP.sub (ws' := RSw cI cZ b0 bR bI bC bY bZ bF bL bN bX bT mcd mwd men mR mI mC mY mZ mF mmd mhi mL mN mfr mX mT mct mtk) [8, 9, 10, 11, 12, 13, 14, 15, 16, 17, 18] rfl
            have hKc := hK.sub (tys' := [(cI, .int), (cZ, .boolean)]) [1, 2] rfl
            have hDc := hD.sub (ws' := RSw cI cZ b0 bR bI bC bY bZ bF bL bN bX bT mcd mwd men mR mI mC mY mZ mF mmd mhi mL mN mfr mX mT mct mtk) [8, 9, 10, 11, 12, 13, 14, 15, 16, 17, 18] (by decide) rfl
            have hFc := va_free (wc := RSw cI cZ b0 bR bI bC bY bZ bF bL bN bX bT mcd mwd men mR mI mC mY mZ mF mmd mhi mL mN mfr mX mT mct mtk) hD hS hA [8, 9, 10, 11, 12, 13, 14, 15, 16, 17, 18] rfl
            refine va_calli (va_runV (As := [.int (xs (x4 + (1 : Int32)).toNatClampNeg), .int (xs (x4 + (2 : Int32)).toNatClampNeg), .int (xs (x4 + (3 : Int32)).toNatClampNeg), .int (1 : Int32)]) (rest := []) ⟨hx, hb, hml, hown, hw⟩ (mR_make l dC dI cI cZ b0 bR bI bC bY bZ bF bL bN bX bT H.size mcd mwd men mR mI mC mY mZ mF mmd mhi mL mN mfr mX mT mct mtk (xs (x4 + (1 : Int32)).toNatClampNeg) (xs (x4 + (2 : Int32)).toNatClampNeg) (xs (x4 + (3 : Int32)).toNatClampNeg) (1 : Int32) _ h) (cwV 4 hw g_L_117 rfl rfl rfl (by decide +kernel) ⟨Nat.le_of_ble_eq_true rfl, Nat.le_of_ble_eq_true rfl⟩) (rw_PV (ci := 2) (q0 := 0) hKc hPc hDc rfl rfl) rfl rfl hl.1 rfl (lv_room (Nat.le_of_ble_eq_true rfl)) d_L_law_368 ⟨by show 20 + 8 * (513 - (n + 1)) + 4 + 0 ≤ 601024; omega, by show 286816 + 48 * (513 - (n + 1)) + 24 + 0 ≤ 7293000; omega⟩) hS (fun q _ h => hFc q h) hFc (fun r368 u t H1 locs ht hvm h hB hz1 hk1 hS => ?_)
            obtain ⟨mcd_368, mR_368, mI_368, mC_368, mY_368, mZ_368, mF_368, mmd_368, mhi_368, mL_368, mN_368, mfr_368, mX_368, mT_368, mct_368, mtk_368⟩ := u
            obtain ⟨hP1, hK1, hD1⟩ := hB
            rw [ht] at hP1
            obtain ⟨hP, hD⟩ := va_join (wr := [(a0, .inr (0, [.ref aR, .ref aM])), (aR, .inl (cA, 32, .inl R_330)), (aM, .inr (1, [.ref aW, .int us_330, .ref aP, .ref aS, .int sc_330, .int li_330, .ref aC, .int rn_330, .ref aO, .int rd_330, .int st_330])), (aW, .inl (cA, nW, .inl f_330)), (aP, .inl (cA, nE, .inl P_330)), (aS, .inl (cA, nE, .inl S_330)), (aC, .inl (cA, nE, .inl rc_330)), (aO, .inl (cA, nE, .inl ro_330)), (aL, .inl (cL, 1, .inr (.inl ot_330)))]) (w1 := RSw cI cZ b0 bR bI bC bY bZ bF bL bN bX bT mcd_368 mwd men mR_368 mI_368 mC_368 mY_368 mZ_368 mF_368 mmd_368 mhi_368 mL_368 mN_368 mfr_368 mX_368 mT_368 mct_368 mtk_368) hP hD [8, 9, 10, 11, 12, 13, 14, 15, 16, 17, 18] [0, 1, 2, 3, 4, 5, 6, 7, 19] rfl rfl (by decide) (by decide) hk1 hFc hP1 hD1
            have hP := hP.sub (ws' := LMw cA a0 aR aM aW aP aS aC aO nW nE cI cZ b0 bR bI bC bY bZ bF bL bN bX bT cL aL R_330 f_330 us_330 P_330 S_330 sc_330 li_330 rc_330 rn_330 ro_330 rd_330 st_330 mcd_368 mwd men mR_368 mI_368 mC_368 mY_368 mZ_368 mF_368 mmd_368 mhi_368 mL_368 mN_368 mfr_368 mX_368 mT_368 mct_368 mtk_368 ot_330) [0, 1, 2, 3, 4, 5, 6, 7, 9, 10, 11, 12, 13, 14, 15, 16, 17, 18, 19, 8] rfl
            have hD := hD.sub (ws' := LMw cA a0 aR aM aW aP aS aC aO nW nE cI cZ b0 bR bI bC bY bZ bF bL bN bX bT cL aL R_330 f_330 us_330 P_330 S_330 sc_330 li_330 rc_330 rn_330 ro_330 rd_330 st_330 mcd_368 mwd men mR_368 mI_368 mC_368 mY_368 mZ_368 mF_368 mmd_368 mhi_368 mL_368 mN_368 mfr_368 mX_368 mT_368 mct_368 mtk_368 ot_330) [0, 1, 2, 3, 4, 5, 6, 7, 9, 10, 11, 12, 13, 14, 15, 16, 17, 18, 19, 8] (by decide) rfl
            generalize H1 = H at hP hS ⊢
            clear hPc hDc hKc hFc hP1 hD1 hK1 hk1
            try dsimp only at h
            refine lv_istore (lv' := [(6, .int r368), (5, .int r330), (0, .ref b), (1, .ref a0), (2, .ref b0), (3, .ref aL), (4, .int x4)]) hx hb d_L_law_371 hl (by decide) rfl (fun ls hl => ?_)
            refine lv_aload_n hx hb d_L_law_373 rfl (lv_at hl 4 rfl) ?_
            have hPc := hP.sub (ws' := RSw cI cZ b0 bR bI bC bY bZ bF bL bN bX bT mcd_368 mwd men mR_368 mI_368 mC_368 mY_368 mZ_368 mF_368 mmd_368 mhi_368 mL_368 mN_368 mfr_368 mX_368 mT_368 mct_368 mtk_368) [8, 9, 10, 11, 12, 13, 14, 15, 16, 17, 18] rfl
            have hKc := hK.sub (tys' := [(cI, .int), (cZ, .boolean)]) [1, 2] rfl
            refine rq_calli (W.runV (As := []) (rest := []) ⟨hx, hb, hml, hown, hw⟩ (mR_thrown l dC dI cI cZ b0 bR bI bC bY bZ bF bL bN bX bT mcd_368 mwd men mR_368 mI_368 mC_368 mY_368 mZ_368 mF_368 mmd_368 mhi_368 mL_368 mN_368 mfr_368 mX_368 mT_368 mct_368 mtk_368 _ h) (cwV 0 hw g_L_103 rfl rfl rfl (by decide +kernel) ⟨Nat.le_of_ble_eq_true rfl, Nat.le_of_ble_eq_true rfl⟩) (ro_PV (ci := 2) (q0 := 0) hKc hPc rfl rfl) rfl rfl hl.1 rfl (lv_room (Nat.le_of_ble_eq_true rfl)) d_L_law_374 ⟨by show 20 + 8 * (513 - (n + 1)) + 4 + 0 + 0 ≤ 601024; omega, by show 286816 + 48 * (513 - (n + 1)) + 24 + 0 + 0 ≤ 7293000; omega⟩) (fun r374 h => ?_)
            clear hPc hKc
            refine lv_iload hx hb d_L_law_377 (lv_at hl 1 rfl) ?_
            refine lv_icmp_eq (tgt := 384) hx hb d_L_law_379 (by decide) (fun c_379 => ?_) (fun c_379 => ?_)
            · have h := h.1 c_379
              refine lv_iload hx hb d_L_law_384 (lv_at hl 1 rfl) ?_
              refine lv_if_ne (tgt := 401) hx hb d_L_law_386 (by decide) (fun c_386 => ?_) (fun c_386 => ?_)
              · have h := h.2 c_386
                refine lv_goto (tgt := 1529) hx hb d_L_law_401 (by decide) ?_
                refine lv_iinc (v := x4 + (5 : Int32)) (lv' := [(4, .int (x4 + (5 : Int32))), (6, .int r368), (5, .int r330), (0, .ref b), (1, .ref a0), (2, .ref b0), (3, .ref aL)]) hx hb d_L_law_1529 hl (k := 6) rfl rfl (by decide) rfl (fun ls hl => ?_)
                refine lv_goto (tgt := 43) hx hb d_L_law_1532 (by decide) ?_
                refine W.widen (k := 20 + 8 * (513 - n)) (n := 286816 + 48 * (513 - n)) (by omega) (by omega) ?_
                exact ih (by omega) (x4 + (5 : Int32)) R_330 f_330 us_330 P_330 S_330 sc_330 li_330 rc_330 rn_330 ro_330 rd_330 st_330 mcd_368 mwd men mR_368 mI_368 mC_368 mY_368 mZ_368 mF_368 mmd_368 mhi_368 mL_368 mN_368 mfr_368 mX_368 mT_368 mct_368 mtk_368 ot_330 H locs ls hP hD hS (lv_sub hl [3, 4, 5, 6, 0] rfl) h
              · have h := h.1 c_386
                refine lv_aload_n hx hb d_L_law_389 rfl (lv_at hl 5 rfl) ?_
                refine lv_iconst (v := (0 : Int32)) hx hb d_L_law_390 (by decide) ?_
                refine va_lald hx hb hK hP 19 3 rfl rfl h.1 d_L_law_391 ?_
                have h := h.2
                refine lv_iload hx hb d_L_law_392 (lv_at hl 0 rfl) ?_
                refine lv_i2l (v := r368.toInt64) hx hb d_L_law_394 rfl ?_
                refine W.lcmp hx hb d_L_law_395 ?_
                refine lv_if_eq (tgt := 401) hx hb d_L_law_396 (by decide) (fun c_396 => ?_) (fun c_396 => ?_)
                · have h := h.1 c_396
                  refine lv_goto (tgt := 1529) hx hb d_L_law_401 (by decide) ?_
                  refine lv_iinc (v := x4 + (5 : Int32)) (lv' := [(4, .int (x4 + (5 : Int32))), (6, .int r368), (5, .int r330), (0, .ref b), (1, .ref a0), (2, .ref b0), (3, .ref aL)]) hx hb d_L_law_1529 hl (k := 6) rfl rfl (by decide) rfl (fun ls hl => ?_)
                  refine lv_goto (tgt := 43) hx hb d_L_law_1532 (by decide) ?_
                  refine W.widen (k := 20 + 8 * (513 - n)) (n := 286816 + 48 * (513 - n)) (by omega) (by omega) ?_
                  exact ih (by omega) (x4 + (5 : Int32)) R_330 f_330 us_330 P_330 S_330 sc_330 li_330 rc_330 rn_330 ro_330 rd_330 st_330 mcd_368 mwd men mR_368 mI_368 mC_368 mY_368 mZ_368 mF_368 mmd_368 mhi_368 mL_368 mN_368 mfr_368 mX_368 mT_368 mct_368 mtk_368 ot_330 H locs ls hP hD hS (lv_sub hl [3, 4, 5, 6, 0] rfl) h
                · have h := h.2 c_396
                  refine lv_iconst (v := (0 : Int32)) hx hb d_L_law_399 (by decide) ?_
                  exact h.elim
            · have h := h.2 c_379
              refine lv_iconst (v := (0 : Int32)) hx hb d_L_law_382 (by decide) ?_
              exact h.elim
        · have h := h.2 c_321
          refine lv_iconst (v := (1 : Int32)) hx hb d_L_law_324 (by decide) ?_
          refine lv_goto (tgt := 329) hx hb d_L_law_325 (by decide) ?_
          refine lv_aload_n hx hb d_L_law_329 rfl (lv_at hl 3 rfl) ?_
          have hPc := hP.sub (ws' := LHw cA a0 aR aM aW aP aS aC aO nW nE cL aL R f us P S sc li rc rn ro rd st ot) [0, 1, 2, 3, 4, 5, 6, 7, 19] rfl
          have hKc := hK.sub (tys' := [(cA, .int), (cL, .long)]) [0, 3] rfl
          have hDc := hD.sub (ws' := LHw cA a0 aR aM aW aP aS aC aO nW nE cL aL R f us P S sc li rc rn ro rd st ot) [0, 1, 2, 3, 4, 5, 6, 7, 19] (by decide) rfl
          have hFc := va_free (wc := LHw cA a0 aR aM aW aP aS aC aO nW nE cL aL R f us P S sc li rc rn ro rd st ot) hD hS hA [0, 1, 2, 3, 4, 5, 6, 7, 19] rfl
          refine va_calli (vx_runSW (As := [.ref a0, .int (xs (x4 + (1 : Int32)).toNatClampNeg), .int (xs (x4 + (2 : Int32)).toNatClampNeg), .int (xs (x4 + (3 : Int32)).toNatClampNeg), .int (1 : Int32), .ref aL]) (rest := []) ⟨hx, hb, hml, hown, hw⟩ (mL_make l hlT sa dC dI cA a0 aR aM aW aP aS aC aO nW nE cL aL H.size R f us P S sc li rc rn ro rd st ot (xs (x4 + (1 : Int32)).toNatClampNeg) (xs (x4 + (2 : Int32)).toNatClampNeg) (xs (x4 + (3 : Int32)).toNatClampNeg) (1 : Int32) _ h) (vx_cwSW 6 hw g_L_114 rfl rfl rfl (by decide +kernel) ⟨Nat.le_of_ble_eq_true rfl, Nat.le_of_ble_eq_true rfl⟩) (xh_PS hKc hPc hDc (xt_at hXT hS) hFc hNC) rfl rfl hl.1 rfl (lv_room (Nat.le_of_ble_eq_true rfl)) d_L_law_330 ⟨by show 20 + 8 * (513 - (n + 1)) + 4 ≤ 601024; omega, by show 286816 + 48 * (513 - (n + 1)) + 24 ≤ 7293000; omega⟩) hS (fun q _ h => hFc q h) hFc (fun r330 u t H1 locs ht hvm h hB hz1 hk1 hS => ?_)
          obtain ⟨R_330, f_330, us_330, P_330, S_330, sc_330, li_330, rc_330, rn_330, ro_330, rd_330, st_330, ot_330⟩ := u
          obtain ⟨hP1, hK1, hD1⟩ := hB
          rw [ht] at hP1
          obtain ⟨hP, hD⟩ := va_join (wr := [(b0, .inr (2, [.int mcd, .int mwd, .int men, .ref bR, .ref bI, .ref bC, .ref bY, .ref bZ, .ref bF, .int mmd, .int mhi, .ref bL, .ref bN, .int mfr, .ref bX, .ref bT, .int mct, .int mtk])), (bR, .inl (cI, 32, .inl mR)), (bI, .inl (cI, 8192, .inl mI)), (bC, .inl (cI, 8192, .inl mC)), (bY, .inl (cZ, 8192, .inl mY)), (bZ, .inl (cI, 8192, .inl mZ)), (bF, .inl (cI, 8192, .inl mF)), (bL, .inl (cI, 65536, .inl mL)), (bN, .inl (cI, 65536, .inl mN)), (bX, .inl (cZ, 8192, .inl mX)), (bT, .inl (cI, 8192, .inl mT))]) (w1 := LHw cA a0 aR aM aW aP aS aC aO nW nE cL aL R_330 f_330 us_330 P_330 S_330 sc_330 li_330 rc_330 rn_330 ro_330 rd_330 st_330 ot_330) hP hD [0, 1, 2, 3, 4, 5, 6, 7, 19] [8, 9, 10, 11, 12, 13, 14, 15, 16, 17, 18] rfl rfl (by decide) (by decide) hk1 hFc hP1 hD1
          have hP := hP.sub (ws' := LMw cA a0 aR aM aW aP aS aC aO nW nE cI cZ b0 bR bI bC bY bZ bF bL bN bX bT cL aL R_330 f_330 us_330 P_330 S_330 sc_330 li_330 rc_330 rn_330 ro_330 rd_330 st_330 mcd mwd men mR mI mC mY mZ mF mmd mhi mL mN mfr mX mT mct mtk ot_330) [11, 12, 13, 14, 15, 16, 17, 18, 0, 1, 2, 3, 4, 5, 6, 7, 8, 9, 10, 19] rfl
          have hD := hD.sub (ws' := LMw cA a0 aR aM aW aP aS aC aO nW nE cI cZ b0 bR bI bC bY bZ bF bL bN bX bT cL aL R_330 f_330 us_330 P_330 S_330 sc_330 li_330 rc_330 rn_330 ro_330 rd_330 st_330 mcd mwd men mR mI mC mY mZ mF mmd mhi mL mN mfr mX mT mct mtk ot_330) [11, 12, 13, 14, 15, 16, 17, 18, 0, 1, 2, 3, 4, 5, 6, 7, 8, 9, 10, 19] (by decide) rfl
          generalize H1 = H at hP hS ⊢
          clear hPc hDc hKc hFc hP1 hD1 hK1 hk1
          try dsimp only at h
          refine lv_istore (lv' := [(5, .int r330), (0, .ref b), (1, .ref a0), (2, .ref b0), (3, .ref aL), (4, .int x4)]) hx hb d_L_law_333 hl (by decide) rfl (fun ls hl => ?_)
          refine lv_aload_n hx hb d_L_law_335 rfl (lv_at hl 3 rfl) ?_
          refine lv_aload_n hx hb d_L_law_336 rfl (lv_at hl 1 rfl) ?_
          refine lv_iload hx hb d_L_law_337 (lv_at hl 5 rfl) ?_
          refine lv_iconst (v := (1 : Int32)) hx hb d_L_law_339 (by decide) ?_
          refine lv_iadd hx hb d_L_law_340 ?_
          refine va_sld hx hb hX hbl hbA hS h.1 d_L_law_341 ?_
          have h := h.2
          refine lv_aload_n hx hb d_L_law_342 rfl (lv_at hl 1 rfl) ?_
          refine lv_iload hx hb d_L_law_343 (lv_at hl 5 rfl) ?_
          refine lv_iconst (v := (2 : Int32)) hx hb d_L_law_345 (by decide) ?_
          refine lv_iadd hx hb d_L_law_346 ?_
          refine va_sld hx hb hX hbl hbA hS h.1 d_L_law_347 ?_
          have h := h.2
          refine lv_aload_n hx hb d_L_law_348 rfl (lv_at hl 1 rfl) ?_
          refine lv_iload hx hb d_L_law_349 (lv_at hl 5 rfl) ?_
          refine lv_iconst (v := (3 : Int32)) hx hb d_L_law_351 (by decide) ?_
          refine lv_iadd hx hb d_L_law_352 ?_
          refine va_sld hx hb hX hbl hbA hS h.1 d_L_law_353 ?_
          have h := h.2
          refine lv_aload_n hx hb d_L_law_354 rfl (lv_at hl 1 rfl) ?_
          refine lv_iload hx hb d_L_law_355 (lv_at hl 5 rfl) ?_
          refine lv_iconst (v := (4 : Int32)) hx hb d_L_law_357 (by decide) ?_
          refine lv_iadd hx hb d_L_law_358 ?_
          refine va_sld hx hb hX hbl hbA hS h.1 d_L_law_359 ?_
          have h := h.2
          refine lv_if_eq (tgt := 367) hx hb d_L_law_360 (by decide) (fun c_360 => ?_) (fun c_360 => ?_)
          · have h := h.1 c_360
            refine lv_iconst (v := (0 : Int32)) hx hb d_L_law_367 (by decide) ?_
            have hPc := hP.sub (ws' := RSw cI cZ b0 bR bI bC bY bZ bF bL bN bX bT mcd mwd men mR mI mC mY mZ mF mmd mhi mL mN mfr mX mT mct mtk) [8, 9, 10, 11, 12, 13, 14, 15, 16, 17, 18] rfl
            have hKc := hK.sub (tys' := [(cI, .int), (cZ, .boolean)]) [1, 2] rfl
            have hDc := hD.sub (ws' := RSw cI cZ b0 bR bI bC bY bZ bF bL bN bX bT mcd mwd men mR mI mC mY mZ mF mmd mhi mL mN mfr mX mT mct mtk) [8, 9, 10, 11, 12, 13, 14, 15, 16, 17, 18] (by decide) rfl
            have hFc := va_free (wc := RSw cI cZ b0 bR bI bC bY bZ bF bL bN bX bT mcd mwd men mR mI mC mY mZ mF mmd mhi mL mN mfr mX mT mct mtk) hD hS hA [8, 9, 10, 11, 12, 13, 14, 15, 16, 17, 18] rfl
            refine va_calli (va_runV (As := [.int (xs (x4 + (1 : Int32)).toNatClampNeg), .int (xs (x4 + (2 : Int32)).toNatClampNeg), .int (xs (x4 + (3 : Int32)).toNatClampNeg), .int (0 : Int32)]) (rest := []) ⟨hx, hb, hml, hown, hw⟩ (mR_make l dC dI cI cZ b0 bR bI bC bY bZ bF bL bN bX bT H.size mcd mwd men mR mI mC mY mZ mF mmd mhi mL mN mfr mX mT mct mtk (xs (x4 + (1 : Int32)).toNatClampNeg) (xs (x4 + (2 : Int32)).toNatClampNeg) (xs (x4 + (3 : Int32)).toNatClampNeg) (0 : Int32) _ h) (cwV 4 hw g_L_117 rfl rfl rfl (by decide +kernel) ⟨Nat.le_of_ble_eq_true rfl, Nat.le_of_ble_eq_true rfl⟩) (rw_PV (ci := 2) (q0 := 0) hKc hPc hDc rfl rfl) rfl rfl hl.1 rfl (lv_room (Nat.le_of_ble_eq_true rfl)) d_L_law_368 ⟨by show 20 + 8 * (513 - (n + 1)) + 4 + 0 ≤ 601024; omega, by show 286816 + 48 * (513 - (n + 1)) + 24 + 0 ≤ 7293000; omega⟩) hS (fun q _ h => hFc q h) hFc (fun r368 u t H1 locs ht hvm h hB hz1 hk1 hS => ?_)
            obtain ⟨mcd_368, mR_368, mI_368, mC_368, mY_368, mZ_368, mF_368, mmd_368, mhi_368, mL_368, mN_368, mfr_368, mX_368, mT_368, mct_368, mtk_368⟩ := u
            obtain ⟨hP1, hK1, hD1⟩ := hB
            rw [ht] at hP1
            obtain ⟨hP, hD⟩ := va_join (wr := [(a0, .inr (0, [.ref aR, .ref aM])), (aR, .inl (cA, 32, .inl R_330)), (aM, .inr (1, [.ref aW, .int us_330, .ref aP, .ref aS, .int sc_330, .int li_330, .ref aC, .int rn_330, .ref aO, .int rd_330, .int st_330])), (aW, .inl (cA, nW, .inl f_330)), (aP, .inl (cA, nE, .inl P_330)), (aS, .inl (cA, nE, .inl S_330)), (aC, .inl (cA, nE, .inl rc_330)), (aO, .inl (cA, nE, .inl ro_330)), (aL, .inl (cL, 1, .inr (.inl ot_330)))]) (w1 := RSw cI cZ b0 bR bI bC bY bZ bF bL bN bX bT mcd_368 mwd men mR_368 mI_368 mC_368 mY_368 mZ_368 mF_368 mmd_368 mhi_368 mL_368 mN_368 mfr_368 mX_368 mT_368 mct_368 mtk_368) hP hD [8, 9, 10, 11, 12, 13, 14, 15, 16, 17, 18] [0, 1, 2, 3, 4, 5, 6, 7, 19] rfl rfl (by decide) (by decide) hk1 hFc hP1 hD1
            have hP := hP.sub (ws' := LMw cA a0 aR aM aW aP aS aC aO nW nE cI cZ b0 bR bI bC bY bZ bF bL bN bX bT cL aL R_330 f_330 us_330 P_330 S_330 sc_330 li_330 rc_330 rn_330 ro_330 rd_330 st_330 mcd_368 mwd men mR_368 mI_368 mC_368 mY_368 mZ_368 mF_368 mmd_368 mhi_368 mL_368 mN_368 mfr_368 mX_368 mT_368 mct_368 mtk_368 ot_330) [0, 1, 2, 3, 4, 5, 6, 7, 9, 10, 11, 12, 13, 14, 15, 16, 17, 18, 19, 8] rfl
            have hD := hD.sub (ws' := LMw cA a0 aR aM aW aP aS aC aO nW nE cI cZ b0 bR bI bC bY bZ bF bL bN bX bT cL aL R_330 f_330 us_330 P_330 S_330 sc_330 li_330 rc_330 rn_330 ro_330 rd_330 st_330 mcd_368 mwd men mR_368 mI_368 mC_368 mY_368 mZ_368 mF_368 mmd_368 mhi_368 mL_368 mN_368 mfr_368 mX_368 mT_368 mct_368 mtk_368 ot_330) [0, 1, 2, 3, 4, 5, 6, 7, 9, 10, 11, 12, 13, 14, 15, 16, 17, 18, 19, 8] (by decide) rfl
            generalize H1 = H at hP hS ⊢
            clear hPc hDc hKc hFc hP1 hD1 hK1 hk1
            try dsimp only at h
            refine lv_istore (lv' := [(6, .int r368), (5, .int r330), (0, .ref b), (1, .ref a0), (2, .ref b0), (3, .ref aL), (4, .int x4)]) hx hb d_L_law_371 hl (by decide) rfl (fun ls hl => ?_)
            refine lv_aload_n hx hb d_L_law_373 rfl (lv_at hl 4 rfl) ?_
            have hPc := hP.sub (ws' := RSw cI cZ b0 bR bI bC bY bZ bF bL bN bX bT mcd_368 mwd men mR_368 mI_368 mC_368 mY_368 mZ_368 mF_368 mmd_368 mhi_368 mL_368 mN_368 mfr_368 mX_368 mT_368 mct_368 mtk_368) [8, 9, 10, 11, 12, 13, 14, 15, 16, 17, 18] rfl
            have hKc := hK.sub (tys' := [(cI, .int), (cZ, .boolean)]) [1, 2] rfl
            refine rq_calli (W.runV (As := []) (rest := []) ⟨hx, hb, hml, hown, hw⟩ (mR_thrown l dC dI cI cZ b0 bR bI bC bY bZ bF bL bN bX bT mcd_368 mwd men mR_368 mI_368 mC_368 mY_368 mZ_368 mF_368 mmd_368 mhi_368 mL_368 mN_368 mfr_368 mX_368 mT_368 mct_368 mtk_368 _ h) (cwV 0 hw g_L_103 rfl rfl rfl (by decide +kernel) ⟨Nat.le_of_ble_eq_true rfl, Nat.le_of_ble_eq_true rfl⟩) (ro_PV (ci := 2) (q0 := 0) hKc hPc rfl rfl) rfl rfl hl.1 rfl (lv_room (Nat.le_of_ble_eq_true rfl)) d_L_law_374 ⟨by show 20 + 8 * (513 - (n + 1)) + 4 + 0 + 0 ≤ 601024; omega, by show 286816 + 48 * (513 - (n + 1)) + 24 + 0 + 0 ≤ 7293000; omega⟩) (fun r374 h => ?_)
            clear hPc hKc
            refine lv_iload hx hb d_L_law_377 (lv_at hl 1 rfl) ?_
            refine lv_icmp_eq (tgt := 384) hx hb d_L_law_379 (by decide) (fun c_379 => ?_) (fun c_379 => ?_)
            · have h := h.1 c_379
              refine lv_iload hx hb d_L_law_384 (lv_at hl 1 rfl) ?_
              refine lv_if_ne (tgt := 401) hx hb d_L_law_386 (by decide) (fun c_386 => ?_) (fun c_386 => ?_)
              · have h := h.2 c_386
                refine lv_goto (tgt := 1529) hx hb d_L_law_401 (by decide) ?_
                refine lv_iinc (v := x4 + (5 : Int32)) (lv' := [(4, .int (x4 + (5 : Int32))), (6, .int r368), (5, .int r330), (0, .ref b), (1, .ref a0), (2, .ref b0), (3, .ref aL)]) hx hb d_L_law_1529 hl (k := 6) rfl rfl (by decide) rfl (fun ls hl => ?_)
                refine lv_goto (tgt := 43) hx hb d_L_law_1532 (by decide) ?_
                refine W.widen (k := 20 + 8 * (513 - n)) (n := 286816 + 48 * (513 - n)) (by omega) (by omega) ?_
                exact ih (by omega) (x4 + (5 : Int32)) R_330 f_330 us_330 P_330 S_330 sc_330 li_330 rc_330 rn_330 ro_330 rd_330 st_330 mcd_368 mwd men mR_368 mI_368 mC_368 mY_368 mZ_368 mF_368 mmd_368 mhi_368 mL_368 mN_368 mfr_368 mX_368 mT_368 mct_368 mtk_368 ot_330 H locs ls hP hD hS (lv_sub hl [3, 4, 5, 6, 0] rfl) h
              · have h := h.1 c_386
                refine lv_aload_n hx hb d_L_law_389 rfl (lv_at hl 5 rfl) ?_
                refine lv_iconst (v := (0 : Int32)) hx hb d_L_law_390 (by decide) ?_
                refine va_lald hx hb hK hP 19 3 rfl rfl h.1 d_L_law_391 ?_
                have h := h.2
                refine lv_iload hx hb d_L_law_392 (lv_at hl 0 rfl) ?_
                refine lv_i2l (v := r368.toInt64) hx hb d_L_law_394 rfl ?_
                refine W.lcmp hx hb d_L_law_395 ?_
                refine lv_if_eq (tgt := 401) hx hb d_L_law_396 (by decide) (fun c_396 => ?_) (fun c_396 => ?_)
                · have h := h.1 c_396
                  refine lv_goto (tgt := 1529) hx hb d_L_law_401 (by decide) ?_
                  refine lv_iinc (v := x4 + (5 : Int32)) (lv' := [(4, .int (x4 + (5 : Int32))), (6, .int r368), (5, .int r330), (0, .ref b), (1, .ref a0), (2, .ref b0), (3, .ref aL)]) hx hb d_L_law_1529 hl (k := 6) rfl rfl (by decide) rfl (fun ls hl => ?_)
                  refine lv_goto (tgt := 43) hx hb d_L_law_1532 (by decide) ?_
                  refine W.widen (k := 20 + 8 * (513 - n)) (n := 286816 + 48 * (513 - n)) (by omega) (by omega) ?_
                  exact ih (by omega) (x4 + (5 : Int32)) R_330 f_330 us_330 P_330 S_330 sc_330 li_330 rc_330 rn_330 ro_330 rd_330 st_330 mcd_368 mwd men mR_368 mI_368 mC_368 mY_368 mZ_368 mF_368 mmd_368 mhi_368 mL_368 mN_368 mfr_368 mX_368 mT_368 mct_368 mtk_368 ot_330 H locs ls hP hD hS (lv_sub hl [3, 4, 5, 6, 0] rfl) h
                · have h := h.2 c_396
                  refine lv_iconst (v := (0 : Int32)) hx hb d_L_law_399 (by decide) ?_
                  exact h.elim
            · have h := h.2 c_379
              refine lv_iconst (v := (0 : Int32)) hx hb d_L_law_382 (by decide) ?_
              exact h.elim
          · have h := h.2 c_360
            refine lv_iconst (v := (1 : Int32)) hx hb d_L_law_363 (by decide) ?_
            refine lv_goto (tgt := 368) hx hb d_L_law_364 (by decide) ?_
            have hPc := hP.sub (ws' := RSw cI cZ b0 bR bI bC bY bZ bF bL bN bX bT mcd mwd men mR mI mC mY mZ mF mmd mhi mL mN mfr mX mT mct mtk) [8, 9, 10, 11, 12, 13, 14, 15, 16, 17, 18] rfl
            have hKc := hK.sub (tys' := [(cI, .int), (cZ, .boolean)]) [1, 2] rfl
            have hDc := hD.sub (ws' := RSw cI cZ b0 bR bI bC bY bZ bF bL bN bX bT mcd mwd men mR mI mC mY mZ mF mmd mhi mL mN mfr mX mT mct mtk) [8, 9, 10, 11, 12, 13, 14, 15, 16, 17, 18] (by decide) rfl
            have hFc := va_free (wc := RSw cI cZ b0 bR bI bC bY bZ bF bL bN bX bT mcd mwd men mR mI mC mY mZ mF mmd mhi mL mN mfr mX mT mct mtk) hD hS hA [8, 9, 10, 11, 12, 13, 14, 15, 16, 17, 18] rfl
            refine va_calli (va_runV (As := [.int (xs (x4 + (1 : Int32)).toNatClampNeg), .int (xs (x4 + (2 : Int32)).toNatClampNeg), .int (xs (x4 + (3 : Int32)).toNatClampNeg), .int (1 : Int32)]) (rest := []) ⟨hx, hb, hml, hown, hw⟩ (mR_make l dC dI cI cZ b0 bR bI bC bY bZ bF bL bN bX bT H.size mcd mwd men mR mI mC mY mZ mF mmd mhi mL mN mfr mX mT mct mtk (xs (x4 + (1 : Int32)).toNatClampNeg) (xs (x4 + (2 : Int32)).toNatClampNeg) (xs (x4 + (3 : Int32)).toNatClampNeg) (1 : Int32) _ h) (cwV 4 hw g_L_117 rfl rfl rfl (by decide +kernel) ⟨Nat.le_of_ble_eq_true rfl, Nat.le_of_ble_eq_true rfl⟩) (rw_PV (ci := 2) (q0 := 0) hKc hPc hDc rfl rfl) rfl rfl hl.1 rfl (lv_room (Nat.le_of_ble_eq_true rfl)) d_L_law_368 ⟨by show 20 + 8 * (513 - (n + 1)) + 4 + 0 ≤ 601024; omega, by show 286816 + 48 * (513 - (n + 1)) + 24 + 0 ≤ 7293000; omega⟩) hS (fun q _ h => hFc q h) hFc (fun r368 u t H1 locs ht hvm h hB hz1 hk1 hS => ?_)
            obtain ⟨mcd_368, mR_368, mI_368, mC_368, mY_368, mZ_368, mF_368, mmd_368, mhi_368, mL_368, mN_368, mfr_368, mX_368, mT_368, mct_368, mtk_368⟩ := u
            obtain ⟨hP1, hK1, hD1⟩ := hB
            rw [ht] at hP1
            obtain ⟨hP, hD⟩ := va_join (wr := [(a0, .inr (0, [.ref aR, .ref aM])), (aR, .inl (cA, 32, .inl R_330)), (aM, .inr (1, [.ref aW, .int us_330, .ref aP, .ref aS, .int sc_330, .int li_330, .ref aC, .int rn_330, .ref aO, .int rd_330, .int st_330])), (aW, .inl (cA, nW, .inl f_330)), (aP, .inl (cA, nE, .inl P_330)), (aS, .inl (cA, nE, .inl S_330)), (aC, .inl (cA, nE, .inl rc_330)), (aO, .inl (cA, nE, .inl ro_330)), (aL, .inl (cL, 1, .inr (.inl ot_330)))]) (w1 := RSw cI cZ b0 bR bI bC bY bZ bF bL bN bX bT mcd_368 mwd men mR_368 mI_368 mC_368 mY_368 mZ_368 mF_368 mmd_368 mhi_368 mL_368 mN_368 mfr_368 mX_368 mT_368 mct_368 mtk_368) hP hD [8, 9, 10, 11, 12, 13, 14, 15, 16, 17, 18] [0, 1, 2, 3, 4, 5, 6, 7, 19] rfl rfl (by decide) (by decide) hk1 hFc hP1 hD1
            have hP := hP.sub (ws' := LMw cA a0 aR aM aW aP aS aC aO nW nE cI cZ b0 bR bI bC bY bZ bF bL bN bX bT cL aL R_330 f_330 us_330 P_330 S_330 sc_330 li_330 rc_330 rn_330 ro_330 rd_330 st_330 mcd_368 mwd men mR_368 mI_368 mC_368 mY_368 mZ_368 mF_368 mmd_368 mhi_368 mL_368 mN_368 mfr_368 mX_368 mT_368 mct_368 mtk_368 ot_330) [0, 1, 2, 3, 4, 5, 6, 7, 9, 10, 11, 12, 13, 14, 15, 16, 17, 18, 19, 8] rfl
            have hD := hD.sub (ws' := LMw cA a0 aR aM aW aP aS aC aO nW nE cI cZ b0 bR bI bC bY bZ bF bL bN bX bT cL aL R_330 f_330 us_330 P_330 S_330 sc_330 li_330 rc_330 rn_330 ro_330 rd_330 st_330 mcd_368 mwd men mR_368 mI_368 mC_368 mY_368 mZ_368 mF_368 mmd_368 mhi_368 mL_368 mN_368 mfr_368 mX_368 mT_368 mct_368 mtk_368 ot_330) [0, 1, 2, 3, 4, 5, 6, 7, 9, 10, 11, 12, 13, 14, 15, 16, 17, 18, 19, 8] (by decide) rfl
            generalize H1 = H at hP hS ⊢
            clear hPc hDc hKc hFc hP1 hD1 hK1 hk1
            try dsimp only at h
            refine lv_istore (lv' := [(6, .int r368), (5, .int r330), (0, .ref b), (1, .ref a0), (2, .ref b0), (3, .ref aL), (4, .int x4)]) hx hb d_L_law_371 hl (by decide) rfl (fun ls hl => ?_)
            refine lv_aload_n hx hb d_L_law_373 rfl (lv_at hl 4 rfl) ?_
            have hPc := hP.sub (ws' := RSw cI cZ b0 bR bI bC bY bZ bF bL bN bX bT mcd_368 mwd men mR_368 mI_368 mC_368 mY_368 mZ_368 mF_368 mmd_368 mhi_368 mL_368 mN_368 mfr_368 mX_368 mT_368 mct_368 mtk_368) [8, 9, 10, 11, 12, 13, 14, 15, 16, 17, 18] rfl
            have hKc := hK.sub (tys' := [(cI, .int), (cZ, .boolean)]) [1, 2] rfl
            refine rq_calli (W.runV (As := []) (rest := []) ⟨hx, hb, hml, hown, hw⟩ (mR_thrown l dC dI cI cZ b0 bR bI bC bY bZ bF bL bN bX bT mcd_368 mwd men mR_368 mI_368 mC_368 mY_368 mZ_368 mF_368 mmd_368 mhi_368 mL_368 mN_368 mfr_368 mX_368 mT_368 mct_368 mtk_368 _ h) (cwV 0 hw g_L_103 rfl rfl rfl (by decide +kernel) ⟨Nat.le_of_ble_eq_true rfl, Nat.le_of_ble_eq_true rfl⟩) (ro_PV (ci := 2) (q0 := 0) hKc hPc rfl rfl) rfl rfl hl.1 rfl (lv_room (Nat.le_of_ble_eq_true rfl)) d_L_law_374 ⟨by show 20 + 8 * (513 - (n + 1)) + 4 + 0 + 0 ≤ 601024; omega, by show 286816 + 48 * (513 - (n + 1)) + 24 + 0 + 0 ≤ 7293000; omega⟩) (fun r374 h => ?_)
            clear hPc hKc
            refine lv_iload hx hb d_L_law_377 (lv_at hl 1 rfl) ?_
            refine lv_icmp_eq (tgt := 384) hx hb d_L_law_379 (by decide) (fun c_379 => ?_) (fun c_379 => ?_)
            · have h := h.1 c_379
              refine lv_iload hx hb d_L_law_384 (lv_at hl 1 rfl) ?_
              refine lv_if_ne (tgt := 401) hx hb d_L_law_386 (by decide) (fun c_386 => ?_) (fun c_386 => ?_)
              · have h := h.2 c_386
                refine lv_goto (tgt := 1529) hx hb d_L_law_401 (by decide) ?_
                refine lv_iinc (v := x4 + (5 : Int32)) (lv' := [(4, .int (x4 + (5 : Int32))), (6, .int r368), (5, .int r330), (0, .ref b), (1, .ref a0), (2, .ref b0), (3, .ref aL)]) hx hb d_L_law_1529 hl (k := 6) rfl rfl (by decide) rfl (fun ls hl => ?_)
                refine lv_goto (tgt := 43) hx hb d_L_law_1532 (by decide) ?_
                refine W.widen (k := 20 + 8 * (513 - n)) (n := 286816 + 48 * (513 - n)) (by omega) (by omega) ?_
                exact ih (by omega) (x4 + (5 : Int32)) R_330 f_330 us_330 P_330 S_330 sc_330 li_330 rc_330 rn_330 ro_330 rd_330 st_330 mcd_368 mwd men mR_368 mI_368 mC_368 mY_368 mZ_368 mF_368 mmd_368 mhi_368 mL_368 mN_368 mfr_368 mX_368 mT_368 mct_368 mtk_368 ot_330 H locs ls hP hD hS (lv_sub hl [3, 4, 5, 6, 0] rfl) h
              · have h := h.1 c_386
                refine lv_aload_n hx hb d_L_law_389 rfl (lv_at hl 5 rfl) ?_
                refine lv_iconst (v := (0 : Int32)) hx hb d_L_law_390 (by decide) ?_
                refine va_lald hx hb hK hP 19 3 rfl rfl h.1 d_L_law_391 ?_
                have h := h.2
                refine lv_iload hx hb d_L_law_392 (lv_at hl 0 rfl) ?_
                refine lv_i2l (v := r368.toInt64) hx hb d_L_law_394 rfl ?_
                refine W.lcmp hx hb d_L_law_395 ?_
                refine lv_if_eq (tgt := 401) hx hb d_L_law_396 (by decide) (fun c_396 => ?_) (fun c_396 => ?_)
                · have h := h.1 c_396
                  refine lv_goto (tgt := 1529) hx hb d_L_law_401 (by decide) ?_
                  refine lv_iinc (v := x4 + (5 : Int32)) (lv' := [(4, .int (x4 + (5 : Int32))), (6, .int r368), (5, .int r330), (0, .ref b), (1, .ref a0), (2, .ref b0), (3, .ref aL)]) hx hb d_L_law_1529 hl (k := 6) rfl rfl (by decide) rfl (fun ls hl => ?_)
                  refine lv_goto (tgt := 43) hx hb d_L_law_1532 (by decide) ?_
                  refine W.widen (k := 20 + 8 * (513 - n)) (n := 286816 + 48 * (513 - n)) (by omega) (by omega) ?_
                  exact ih (by omega) (x4 + (5 : Int32)) R_330 f_330 us_330 P_330 S_330 sc_330 li_330 rc_330 rn_330 ro_330 rd_330 st_330 mcd_368 mwd men mR_368 mI_368 mC_368 mY_368 mZ_368 mF_368 mmd_368 mhi_368 mL_368 mN_368 mfr_368 mX_368 mT_368 mct_368 mtk_368 ot_330 H locs ls hP hD hS (lv_sub hl [3, 4, 5, 6, 0] rfl) h
                · have h := h.2 c_396
                  refine lv_iconst (v := (0 : Int32)) hx hb d_L_law_399 (by decide) ?_
                  exact h.elim
            · have h := h.2 c_379
              refine lv_iconst (v := (0 : Int32)) hx hb d_L_law_382 (by decide) ?_
              exact h.elim
      · refine lv_tableIn (tgt := 404) hx hb d_L_law_59 (by decide) (by decide) rfl (by decide) ?_
        have h := h.2.2.2.2.1 rfl
        refine lv_aload_n hx hb d_L_law_404 rfl (lv_at hl 1 rfl) ?_
        refine lv_aload_n hx hb d_L_law_405 rfl (lv_at hl 0 rfl) ?_
        refine lv_iload hx hb d_L_law_406 (lv_at hl 4 rfl) ?_
        refine lv_iconst (v := (1 : Int32)) hx hb d_L_law_408 (by decide) ?_
        refine lv_iadd hx hb d_L_law_409 ?_
        refine va_sld hx hb hX hbl hbA hS h.1 d_L_law_410 ?_
        have h := h.2
        refine lv_aload_n hx hb d_L_law_411 rfl (lv_at hl 0 rfl) ?_
        refine lv_iload hx hb d_L_law_412 (lv_at hl 4 rfl) ?_
        refine lv_iconst (v := (2 : Int32)) hx hb d_L_law_414 (by decide) ?_
        refine lv_iadd hx hb d_L_law_415 ?_
        refine va_sld hx hb hX hbl hbA hS h.1 d_L_law_416 ?_
        have h := h.2
        refine lv_aload_n hx hb d_L_law_417 rfl (lv_at hl 3 rfl) ?_
        have hPc := hP.sub (ws' := LHw cA a0 aR aM aW aP aS aC aO nW nE cL aL R f us P S sc li rc rn ro rd st ot) [0, 1, 2, 3, 4, 5, 6, 7, 19] rfl
        have hKc := hK.sub (tys' := [(cA, .int), (cL, .long)]) [0, 3] rfl
        have hDc := hD.sub (ws' := LHw cA a0 aR aM aW aP aS aC aO nW nE cL aL R f us P S sc li rc rn ro rd st ot) [0, 1, 2, 3, 4, 5, 6, 7, 19] (by decide) rfl
        have hFc := va_free (wc := LHw cA a0 aR aM aW aP aS aC aO nW nE cL aL R f us P S sc li rc rn ro rd st ot) hD hS hA [0, 1, 2, 3, 4, 5, 6, 7, 19] rfl
        refine va_calli (vx_runSW (As := [.ref a0, .int (xs (x4 + (1 : Int32)).toNatClampNeg), .int (xs (x4 + (2 : Int32)).toNatClampNeg), .ref aL]) (rest := []) ⟨hx, hb, hml, hown, hw⟩ (mL_copy l hlT sa dC dI cA a0 aR aM aW aP aS aC aO nW nE cL aL H.size R f us P S sc li rc rn ro rd st ot (xs (x4 + (1 : Int32)).toNatClampNeg) (xs (x4 + (2 : Int32)).toNatClampNeg) _ h) (vx_cwSW 4 hw g_L_118 rfl rfl rfl (by decide +kernel) ⟨Nat.le_of_ble_eq_true rfl, Nat.le_of_ble_eq_true rfl⟩) (xh_PS hKc hPc hDc (xt_at hXT hS) hFc hNC) rfl rfl hl.1 rfl (lv_room (Nat.le_of_ble_eq_true rfl)) d_L_law_418 ⟨by show 20 + 8 * (513 - (n + 1)) + 4 ≤ 601024; omega, by show 286816 + 48 * (513 - (n + 1)) + 24 ≤ 7293000; omega⟩) hS (fun q _ h => hFc q h) hFc (fun r418 u t H1 locs ht hvm h hB hz1 hk1 hS => ?_)
        obtain ⟨R_418, f_418, us_418, P_418, S_418, sc_418, li_418, rc_418, rn_418, ro_418, rd_418, st_418, ot_418⟩ := u
        obtain ⟨hP1, hK1, hD1⟩ := hB
        rw [ht] at hP1
        obtain ⟨hP, hD⟩ := va_join (wr := [(b0, .inr (2, [.int mcd, .int mwd, .int men, .ref bR, .ref bI, .ref bC, .ref bY, .ref bZ, .ref bF, .int mmd, .int mhi, .ref bL, .ref bN, .int mfr, .ref bX, .ref bT, .int mct, .int mtk])), (bR, .inl (cI, 32, .inl mR)), (bI, .inl (cI, 8192, .inl mI)), (bC, .inl (cI, 8192, .inl mC)), (bY, .inl (cZ, 8192, .inl mY)), (bZ, .inl (cI, 8192, .inl mZ)), (bF, .inl (cI, 8192, .inl mF)), (bL, .inl (cI, 65536, .inl mL)), (bN, .inl (cI, 65536, .inl mN)), (bX, .inl (cZ, 8192, .inl mX)), (bT, .inl (cI, 8192, .inl mT))]) (w1 := LHw cA a0 aR aM aW aP aS aC aO nW nE cL aL R_418 f_418 us_418 P_418 S_418 sc_418 li_418 rc_418 rn_418 ro_418 rd_418 st_418 ot_418) hP hD [0, 1, 2, 3, 4, 5, 6, 7, 19] [8, 9, 10, 11, 12, 13, 14, 15, 16, 17, 18] rfl rfl (by decide) (by decide) hk1 hFc hP1 hD1
        have hP := hP.sub (ws' := LMw cA a0 aR aM aW aP aS aC aO nW nE cI cZ b0 bR bI bC bY bZ bF bL bN bX bT cL aL R_418 f_418 us_418 P_418 S_418 sc_418 li_418 rc_418 rn_418 ro_418 rd_418 st_418 mcd mwd men mR mI mC mY mZ mF mmd mhi mL mN mfr mX mT mct mtk ot_418) [11, 12, 13, 14, 15, 16, 17, 18, 0, 1, 2, 3, 4, 5, 6, 7, 8, 9, 10, 19] rfl
        have hD := hD.sub (ws' := LMw cA a0 aR aM aW aP aS aC aO nW nE cI cZ b0 bR bI bC bY bZ bF bL bN bX bT cL aL R_418 f_418 us_418 P_418 S_418 sc_418 li_418 rc_418 rn_418 ro_418 rd_418 st_418 mcd mwd men mR mI mC mY mZ mF mmd mhi mL mN mfr mX mT mct mtk ot_418) [11, 12, 13, 14, 15, 16, 17, 18, 0, 1, 2, 3, 4, 5, 6, 7, 8, 9, 10, 19] (by decide) rfl
        generalize H1 = H at hP hS ⊢
        clear hPc hDc hKc hFc hP1 hD1 hK1 hk1
        try dsimp only at h
        refine lv_istore (lv' := [(5, .int r418), (0, .ref b), (1, .ref a0), (2, .ref b0), (3, .ref aL), (4, .int x4)]) hx hb d_L_law_421 hl (by decide) rfl (fun ls hl => ?_)
        refine lv_aload_n hx hb d_L_law_423 rfl (lv_at hl 3 rfl) ?_
        refine lv_aload_n hx hb d_L_law_424 rfl (lv_at hl 1 rfl) ?_
        refine lv_iload hx hb d_L_law_425 (lv_at hl 5 rfl) ?_
        refine lv_iconst (v := (1 : Int32)) hx hb d_L_law_427 (by decide) ?_
        refine lv_iadd hx hb d_L_law_428 ?_
        refine va_sld hx hb hX hbl hbA hS h.1 d_L_law_429 ?_
        have h := h.2
        refine lv_aload_n hx hb d_L_law_430 rfl (lv_at hl 1 rfl) ?_
        refine lv_iload hx hb d_L_law_431 (lv_at hl 5 rfl) ?_
        refine lv_iconst (v := (2 : Int32)) hx hb d_L_law_433 (by decide) ?_
        refine lv_iadd hx hb d_L_law_434 ?_
        refine va_sld hx hb hX hbl hbA hS h.1 d_L_law_435 ?_
        have h := h.2
        have hPc := hP.sub (ws' := RSw cI cZ b0 bR bI bC bY bZ bF bL bN bX bT mcd mwd men mR mI mC mY mZ mF mmd mhi mL mN mfr mX mT mct mtk) [8, 9, 10, 11, 12, 13, 14, 15, 16, 17, 18] rfl
        have hKc := hK.sub (tys' := [(cI, .int), (cZ, .boolean)]) [1, 2] rfl
        have hDc := hD.sub (ws' := RSw cI cZ b0 bR bI bC bY bZ bF bL bN bX bT mcd mwd men mR mI mC mY mZ mF mmd mhi mL mN mfr mX mT mct mtk) [8, 9, 10, 11, 12, 13, 14, 15, 16, 17, 18] (by decide) rfl
        have hFc := va_free (wc := RSw cI cZ b0 bR bI bC bY bZ bF bL bN bX bT mcd mwd men mR mI mC mY mZ mF mmd mhi mL mN mfr mX mT mct mtk) hD hS hA [8, 9, 10, 11, 12, 13, 14, 15, 16, 17, 18] rfl
        refine va_calli (va_runV (As := [.int (xs (x4 + (1 : Int32)).toNatClampNeg), .int (xs (x4 + (2 : Int32)).toNatClampNeg)]) (rest := []) ⟨hx, hb, hml, hown, hw⟩ (mR_copy l dC dI cI cZ b0 bR bI bC bY bZ bF bL bN bX bT H.size mcd mwd men mR mI mC mY mZ mF mmd mhi mL mN mfr mX mT mct mtk (xs (x4 + (1 : Int32)).toNatClampNeg) (xs (x4 + (2 : Int32)).toNatClampNeg) _ h) (cwV 2 hw g_L_121 rfl rfl rfl (by decide +kernel) ⟨Nat.le_of_ble_eq_true rfl, Nat.le_of_ble_eq_true rfl⟩) (rw_PV (ci := 2) (q0 := 0) hKc hPc hDc rfl rfl) rfl rfl hl.1 rfl (lv_room (Nat.le_of_ble_eq_true rfl)) d_L_law_436 ⟨by show 20 + 8 * (513 - (n + 1)) + 4 + 0 ≤ 601024; omega, by show 286816 + 48 * (513 - (n + 1)) + 24 + 0 ≤ 7293000; omega⟩) hS (fun q _ h => hFc q h) hFc (fun r436 u t H1 locs ht hvm h hB hz1 hk1 hS => ?_)
        obtain ⟨mcd_436, mR_436, mI_436, mC_436, mY_436, mZ_436, mF_436, mmd_436, mhi_436, mL_436, mN_436, mfr_436, mX_436, mT_436, mct_436, mtk_436⟩ := u
        obtain ⟨hP1, hK1, hD1⟩ := hB
        rw [ht] at hP1
        obtain ⟨hP, hD⟩ := va_join (wr := [(a0, .inr (0, [.ref aR, .ref aM])), (aR, .inl (cA, 32, .inl R_418)), (aM, .inr (1, [.ref aW, .int us_418, .ref aP, .ref aS, .int sc_418, .int li_418, .ref aC, .int rn_418, .ref aO, .int rd_418, .int st_418])), (aW, .inl (cA, nW, .inl f_418)), (aP, .inl (cA, nE, .inl P_418)), (aS, .inl (cA, nE, .inl S_418)), (aC, .inl (cA, nE, .inl rc_418)), (aO, .inl (cA, nE, .inl ro_418)), (aL, .inl (cL, 1, .inr (.inl ot_418)))]) (w1 := RSw cI cZ b0 bR bI bC bY bZ bF bL bN bX bT mcd_436 mwd men mR_436 mI_436 mC_436 mY_436 mZ_436 mF_436 mmd_436 mhi_436 mL_436 mN_436 mfr_436 mX_436 mT_436 mct_436 mtk_436) hP hD [8, 9, 10, 11, 12, 13, 14, 15, 16, 17, 18] [0, 1, 2, 3, 4, 5, 6, 7, 19] rfl rfl (by decide) (by decide) hk1 hFc hP1 hD1
        have hP := hP.sub (ws' := LMw cA a0 aR aM aW aP aS aC aO nW nE cI cZ b0 bR bI bC bY bZ bF bL bN bX bT cL aL R_418 f_418 us_418 P_418 S_418 sc_418 li_418 rc_418 rn_418 ro_418 rd_418 st_418 mcd_436 mwd men mR_436 mI_436 mC_436 mY_436 mZ_436 mF_436 mmd_436 mhi_436 mL_436 mN_436 mfr_436 mX_436 mT_436 mct_436 mtk_436 ot_418) [0, 1, 2, 3, 4, 5, 6, 7, 9, 10, 11, 12, 13, 14, 15, 16, 17, 18, 19, 8] rfl
        have hD := hD.sub (ws' := LMw cA a0 aR aM aW aP aS aC aO nW nE cI cZ b0 bR bI bC bY bZ bF bL bN bX bT cL aL R_418 f_418 us_418 P_418 S_418 sc_418 li_418 rc_418 rn_418 ro_418 rd_418 st_418 mcd_436 mwd men mR_436 mI_436 mC_436 mY_436 mZ_436 mF_436 mmd_436 mhi_436 mL_436 mN_436 mfr_436 mX_436 mT_436 mct_436 mtk_436 ot_418) [0, 1, 2, 3, 4, 5, 6, 7, 9, 10, 11, 12, 13, 14, 15, 16, 17, 18, 19, 8] (by decide) rfl
        generalize H1 = H at hP hS ⊢
        clear hPc hDc hKc hFc hP1 hD1 hK1 hk1
        try dsimp only at h
        refine lv_istore (lv' := [(6, .int r436), (5, .int r418), (0, .ref b), (1, .ref a0), (2, .ref b0), (3, .ref aL), (4, .int x4)]) hx hb d_L_law_439 hl (by decide) rfl (fun ls hl => ?_)
        refine lv_aload_n hx hb d_L_law_441 rfl (lv_at hl 4 rfl) ?_
        have hPc := hP.sub (ws' := RSw cI cZ b0 bR bI bC bY bZ bF bL bN bX bT mcd_436 mwd men mR_436 mI_436 mC_436 mY_436 mZ_436 mF_436 mmd_436 mhi_436 mL_436 mN_436 mfr_436 mX_436 mT_436 mct_436 mtk_436) [8, 9, 10, 11, 12, 13, 14, 15, 16, 17, 18] rfl
        have hKc := hK.sub (tys' := [(cI, .int), (cZ, .boolean)]) [1, 2] rfl
        refine rq_calli (W.runV (As := []) (rest := []) ⟨hx, hb, hml, hown, hw⟩ (mR_thrown l dC dI cI cZ b0 bR bI bC bY bZ bF bL bN bX bT mcd_436 mwd men mR_436 mI_436 mC_436 mY_436 mZ_436 mF_436 mmd_436 mhi_436 mL_436 mN_436 mfr_436 mX_436 mT_436 mct_436 mtk_436 _ h) (cwV 0 hw g_L_103 rfl rfl rfl (by decide +kernel) ⟨Nat.le_of_ble_eq_true rfl, Nat.le_of_ble_eq_true rfl⟩) (ro_PV (ci := 2) (q0 := 0) hKc hPc rfl rfl) rfl rfl hl.1 rfl (lv_room (Nat.le_of_ble_eq_true rfl)) d_L_law_442 ⟨by show 20 + 8 * (513 - (n + 1)) + 4 + 0 + 0 ≤ 601024; omega, by show 286816 + 48 * (513 - (n + 1)) + 24 + 0 + 0 ≤ 7293000; omega⟩) (fun r442 h => ?_)
        clear hPc hKc
        refine lv_iload hx hb d_L_law_445 (lv_at hl 1 rfl) ?_
        refine lv_icmp_eq (tgt := 452) hx hb d_L_law_447 (by decide) (fun c_447 => ?_) (fun c_447 => ?_)
        · have h := h.1 c_447
          refine lv_iload hx hb d_L_law_452 (lv_at hl 1 rfl) ?_
          refine lv_if_ne (tgt := 469) hx hb d_L_law_454 (by decide) (fun c_454 => ?_) (fun c_454 => ?_)
          · have h := h.2 c_454
            refine lv_goto (tgt := 1529) hx hb d_L_law_469 (by decide) ?_
            refine lv_iinc (v := x4 + (5 : Int32)) (lv' := [(4, .int (x4 + (5 : Int32))), (6, .int r436), (5, .int r418), (0, .ref b), (1, .ref a0), (2, .ref b0), (3, .ref aL)]) hx hb d_L_law_1529 hl (k := 6) rfl rfl (by decide) rfl (fun ls hl => ?_)
            refine lv_goto (tgt := 43) hx hb d_L_law_1532 (by decide) ?_
            refine W.widen (k := 20 + 8 * (513 - n)) (n := 286816 + 48 * (513 - n)) (by omega) (by omega) ?_
            exact ih (by omega) (x4 + (5 : Int32)) R_418 f_418 us_418 P_418 S_418 sc_418 li_418 rc_418 rn_418 ro_418 rd_418 st_418 mcd_436 mwd men mR_436 mI_436 mC_436 mY_436 mZ_436 mF_436 mmd_436 mhi_436 mL_436 mN_436 mfr_436 mX_436 mT_436 mct_436 mtk_436 ot_418 H locs ls hP hD hS (lv_sub hl [3, 4, 5, 6, 0] rfl) h
          · have h := h.1 c_454
            refine lv_aload_n hx hb d_L_law_457 rfl (lv_at hl 5 rfl) ?_
            refine lv_iconst (v := (0 : Int32)) hx hb d_L_law_458 (by decide) ?_
            refine va_lald hx hb hK hP 19 3 rfl rfl h.1 d_L_law_459 ?_
            have h := h.2
            refine lv_iload hx hb d_L_law_460 (lv_at hl 0 rfl) ?_
            refine lv_i2l (v := r436.toInt64) hx hb d_L_law_462 rfl ?_
            refine W.lcmp hx hb d_L_law_463 ?_
            refine lv_if_eq (tgt := 469) hx hb d_L_law_464 (by decide) (fun c_464 => ?_) (fun c_464 => ?_)
            · have h := h.1 c_464
              refine lv_goto (tgt := 1529) hx hb d_L_law_469 (by decide) ?_
              refine lv_iinc (v := x4 + (5 : Int32)) (lv' := [(4, .int (x4 + (5 : Int32))), (6, .int r436), (5, .int r418), (0, .ref b), (1, .ref a0), (2, .ref b0), (3, .ref aL)]) hx hb d_L_law_1529 hl (k := 6) rfl rfl (by decide) rfl (fun ls hl => ?_)
              refine lv_goto (tgt := 43) hx hb d_L_law_1532 (by decide) ?_
              refine W.widen (k := 20 + 8 * (513 - n)) (n := 286816 + 48 * (513 - n)) (by omega) (by omega) ?_
              exact ih (by omega) (x4 + (5 : Int32)) R_418 f_418 us_418 P_418 S_418 sc_418 li_418 rc_418 rn_418 ro_418 rd_418 st_418 mcd_436 mwd men mR_436 mI_436 mC_436 mY_436 mZ_436 mF_436 mmd_436 mhi_436 mL_436 mN_436 mfr_436 mX_436 mT_436 mct_436 mtk_436 ot_418 H locs ls hP hD hS (lv_sub hl [3, 4, 5, 6, 0] rfl) h
            · have h := h.2 c_464
              refine lv_iconst (v := (0 : Int32)) hx hb d_L_law_467 (by decide) ?_
              exact h.elim
        · have h := h.2 c_447
          refine lv_iconst (v := (0 : Int32)) hx hb d_L_law_450 (by decide) ?_
          exact h.elim
      · refine lv_tableIn (tgt := 472) hx hb d_L_law_59 (by decide) (by decide) rfl (by decide) ?_
        have h := h.2.2.2.2.2.1 rfl
        refine lv_aload_n hx hb d_L_law_472 rfl (lv_at hl 1 rfl) ?_
        refine lv_aload_n hx hb d_L_law_473 rfl (lv_at hl 0 rfl) ?_
        refine lv_iload hx hb d_L_law_474 (lv_at hl 4 rfl) ?_
        refine lv_iconst (v := (1 : Int32)) hx hb d_L_law_476 (by decide) ?_
        refine lv_iadd hx hb d_L_law_477 ?_
        refine va_sld hx hb hX hbl hbA hS h.1 d_L_law_478 ?_
        have h := h.2
        refine lv_aload_n hx hb d_L_law_479 rfl (lv_at hl 0 rfl) ?_
        refine lv_iload hx hb d_L_law_480 (lv_at hl 4 rfl) ?_
        refine lv_iconst (v := (2 : Int32)) hx hb d_L_law_482 (by decide) ?_
        refine lv_iadd hx hb d_L_law_483 ?_
        refine va_sld hx hb hX hbl hbA hS h.1 d_L_law_484 ?_
        have h := h.2
        refine lv_aload_n hx hb d_L_law_485 rfl (lv_at hl 0 rfl) ?_
        refine lv_iload hx hb d_L_law_486 (lv_at hl 4 rfl) ?_
        refine lv_iconst (v := (3 : Int32)) hx hb d_L_law_488 (by decide) ?_
        refine lv_iadd hx hb d_L_law_489 ?_
        refine va_sld hx hb hX hbl hbA hS h.1 d_L_law_490 ?_
        have h := h.2
        refine lv_aload_n hx hb d_L_law_491 rfl (lv_at hl 0 rfl) ?_
        refine lv_iload hx hb d_L_law_492 (lv_at hl 4 rfl) ?_
        refine lv_iconst (v := (4 : Int32)) hx hb d_L_law_494 (by decide) ?_
        refine lv_iadd hx hb d_L_law_495 ?_
        refine va_sld hx hb hX hbl hbA hS h.1 d_L_law_496 ?_
        have h := h.2
        refine lv_aload_n hx hb d_L_law_497 rfl (lv_at hl 3 rfl) ?_
        have hPc := hP.sub (ws' := LHw cA a0 aR aM aW aP aS aC aO nW nE cL aL R f us P S sc li rc rn ro rd st ot) [0, 1, 2, 3, 4, 5, 6, 7, 19] rfl
        have hKc := hK.sub (tys' := [(cA, .int), (cL, .long)]) [0, 3] rfl
        have hDc := hD.sub (ws' := LHw cA a0 aR aM aW aP aS aC aO nW nE cL aL R f us P S sc li rc rn ro rd st ot) [0, 1, 2, 3, 4, 5, 6, 7, 19] (by decide) rfl
        have hFc := va_free (wc := LHw cA a0 aR aM aW aP aS aC aO nW nE cL aL R f us P S sc li rc rn ro rd st ot) hD hS hA [0, 1, 2, 3, 4, 5, 6, 7, 19] rfl
        refine va_calli (vx_runSW (As := [.ref a0, .int (xs (x4 + (1 : Int32)).toNatClampNeg), .int (xs (x4 + (2 : Int32)).toNatClampNeg), .int (xs (x4 + (3 : Int32)).toNatClampNeg), .int (xs (x4 + (4 : Int32)).toNatClampNeg), .ref aL]) (rest := []) ⟨hx, hb, hml, hown, hw⟩ (mL_chain l hlT sa dC dI cA a0 aR aM aW aP aS aC aO nW nE cL aL H.size R f us P S sc li rc rn ro rd st ot (xs (x4 + (1 : Int32)).toNatClampNeg) (xs (x4 + (2 : Int32)).toNatClampNeg) (xs (x4 + (3 : Int32)).toNatClampNeg) (xs (x4 + (4 : Int32)).toNatClampNeg) _ h) (vx_cwSW 6 hw g_L_122 rfl rfl rfl (by decide +kernel) ⟨Nat.le_of_ble_eq_true rfl, Nat.le_of_ble_eq_true rfl⟩) (xh_PS hKc hPc hDc (xt_at hXT hS) hFc hNC) rfl rfl hl.1 rfl (lv_room (Nat.le_of_ble_eq_true rfl)) d_L_law_498 ⟨by show 20 + 8 * (513 - (n + 1)) + 4 ≤ 601024; omega, by show 286816 + 48 * (513 - (n + 1)) + 24 ≤ 7293000; omega⟩) hS (fun q _ h => hFc q h) hFc (fun r498 u t H1 locs ht hvm h hB hz1 hk1 hS => ?_)
        obtain ⟨R_498, f_498, us_498, P_498, S_498, sc_498, li_498, rc_498, rn_498, ro_498, rd_498, st_498, ot_498⟩ := u
        obtain ⟨hP1, hK1, hD1⟩ := hB
        rw [ht] at hP1
        obtain ⟨hP, hD⟩ := va_join (wr := [(b0, .inr (2, [.int mcd, .int mwd, .int men, .ref bR, .ref bI, .ref bC, .ref bY, .ref bZ, .ref bF, .int mmd, .int mhi, .ref bL, .ref bN, .int mfr, .ref bX, .ref bT, .int mct, .int mtk])), (bR, .inl (cI, 32, .inl mR)), (bI, .inl (cI, 8192, .inl mI)), (bC, .inl (cI, 8192, .inl mC)), (bY, .inl (cZ, 8192, .inl mY)), (bZ, .inl (cI, 8192, .inl mZ)), (bF, .inl (cI, 8192, .inl mF)), (bL, .inl (cI, 65536, .inl mL)), (bN, .inl (cI, 65536, .inl mN)), (bX, .inl (cZ, 8192, .inl mX)), (bT, .inl (cI, 8192, .inl mT))]) (w1 := LHw cA a0 aR aM aW aP aS aC aO nW nE cL aL R_498 f_498 us_498 P_498 S_498 sc_498 li_498 rc_498 rn_498 ro_498 rd_498 st_498 ot_498) hP hD [0, 1, 2, 3, 4, 5, 6, 7, 19] [8, 9, 10, 11, 12, 13, 14, 15, 16, 17, 18] rfl rfl (by decide) (by decide) hk1 hFc hP1 hD1
        have hP := hP.sub (ws' := LMw cA a0 aR aM aW aP aS aC aO nW nE cI cZ b0 bR bI bC bY bZ bF bL bN bX bT cL aL R_498 f_498 us_498 P_498 S_498 sc_498 li_498 rc_498 rn_498 ro_498 rd_498 st_498 mcd mwd men mR mI mC mY mZ mF mmd mhi mL mN mfr mX mT mct mtk ot_498) [11, 12, 13, 14, 15, 16, 17, 18, 0, 1, 2, 3, 4, 5, 6, 7, 8, 9, 10, 19] rfl
        have hD := hD.sub (ws' := LMw cA a0 aR aM aW aP aS aC aO nW nE cI cZ b0 bR bI bC bY bZ bF bL bN bX bT cL aL R_498 f_498 us_498 P_498 S_498 sc_498 li_498 rc_498 rn_498 ro_498 rd_498 st_498 mcd mwd men mR mI mC mY mZ mF mmd mhi mL mN mfr mX mT mct mtk ot_498) [11, 12, 13, 14, 15, 16, 17, 18, 0, 1, 2, 3, 4, 5, 6, 7, 8, 9, 10, 19] (by decide) rfl
        generalize H1 = H at hP hS ⊢
        clear hPc hDc hKc hFc hP1 hD1 hK1 hk1
        try dsimp only at h
        refine lv_istore (lv' := [(5, .int r498), (0, .ref b), (1, .ref a0), (2, .ref b0), (3, .ref aL), (4, .int x4)]) hx hb d_L_law_501 hl (by decide) rfl (fun ls hl => ?_)
        refine lv_aload_n hx hb d_L_law_503 rfl (lv_at hl 3 rfl) ?_
        refine lv_aload_n hx hb d_L_law_504 rfl (lv_at hl 1 rfl) ?_
        refine lv_iload hx hb d_L_law_505 (lv_at hl 5 rfl) ?_
        refine lv_iconst (v := (1 : Int32)) hx hb d_L_law_507 (by decide) ?_
        refine lv_iadd hx hb d_L_law_508 ?_
        refine va_sld hx hb hX hbl hbA hS h.1 d_L_law_509 ?_
        have h := h.2
        refine lv_aload_n hx hb d_L_law_510 rfl (lv_at hl 1 rfl) ?_
        refine lv_iload hx hb d_L_law_511 (lv_at hl 5 rfl) ?_
        refine lv_iconst (v := (2 : Int32)) hx hb d_L_law_513 (by decide) ?_
        refine lv_iadd hx hb d_L_law_514 ?_
        refine va_sld hx hb hX hbl hbA hS h.1 d_L_law_515 ?_
        have h := h.2
        refine lv_aload_n hx hb d_L_law_516 rfl (lv_at hl 1 rfl) ?_
        refine lv_iload hx hb d_L_law_517 (lv_at hl 5 rfl) ?_
        refine lv_iconst (v := (3 : Int32)) hx hb d_L_law_519 (by decide) ?_
        refine lv_iadd hx hb d_L_law_520 ?_
        refine va_sld hx hb hX hbl hbA hS h.1 d_L_law_521 ?_
        have h := h.2
        refine lv_aload_n hx hb d_L_law_522 rfl (lv_at hl 1 rfl) ?_
        refine lv_iload hx hb d_L_law_523 (lv_at hl 5 rfl) ?_
        refine lv_iconst (v := (4 : Int32)) hx hb d_L_law_525 (by decide) ?_
        refine lv_iadd hx hb d_L_law_526 ?_
        refine va_sld hx hb hX hbl hbA hS h.1 d_L_law_527 ?_
        have h := h.2
        have hPc := hP.sub (ws' := RSw cI cZ b0 bR bI bC bY bZ bF bL bN bX bT mcd mwd men mR mI mC mY mZ mF mmd mhi mL mN mfr mX mT mct mtk) [8, 9, 10, 11, 12, 13, 14, 15, 16, 17, 18] rfl
        have hKc := hK.sub (tys' := [(cI, .int), (cZ, .boolean)]) [1, 2] rfl
        have hDc := hD.sub (ws' := RSw cI cZ b0 bR bI bC bY bZ bF bL bN bX bT mcd mwd men mR mI mC mY mZ mF mmd mhi mL mN mfr mX mT mct mtk) [8, 9, 10, 11, 12, 13, 14, 15, 16, 17, 18] (by decide) rfl
        have hFc := va_free (wc := RSw cI cZ b0 bR bI bC bY bZ bF bL bN bX bT mcd mwd men mR mI mC mY mZ mF mmd mhi mL mN mfr mX mT mct mtk) hD hS hA [8, 9, 10, 11, 12, 13, 14, 15, 16, 17, 18] rfl
        refine va_calli (va_runV (As := [.int (xs (x4 + (1 : Int32)).toNatClampNeg), .int (xs (x4 + (2 : Int32)).toNatClampNeg), .int (xs (x4 + (3 : Int32)).toNatClampNeg), .int (xs (x4 + (4 : Int32)).toNatClampNeg)]) (rest := []) ⟨hx, hb, hml, hown, hw⟩ (mR_chain l dC dI cI cZ b0 bR bI bC bY bZ bF bL bN bX bT H.size mcd mwd men mR mI mC mY mZ mF mmd mhi mL mN mfr mX mT mct mtk (xs (x4 + (1 : Int32)).toNatClampNeg) (xs (x4 + (2 : Int32)).toNatClampNeg) (xs (x4 + (3 : Int32)).toNatClampNeg) (xs (x4 + (4 : Int32)).toNatClampNeg) _ h) (cwV 4 hw g_L_125 rfl rfl rfl (by decide +kernel) ⟨Nat.le_of_ble_eq_true rfl, Nat.le_of_ble_eq_true rfl⟩) (rw_PV (ci := 2) (q0 := 0) hKc hPc hDc rfl rfl) rfl rfl hl.1 rfl (lv_room (Nat.le_of_ble_eq_true rfl)) d_L_law_528 ⟨by show 20 + 8 * (513 - (n + 1)) + 4 + 0 ≤ 601024; omega, by show 286816 + 48 * (513 - (n + 1)) + 24 + 0 ≤ 7293000; omega⟩) hS (fun q _ h => hFc q h) hFc (fun r528 u t H1 locs ht hvm h hB hz1 hk1 hS => ?_)
        obtain ⟨mcd_528, mR_528, mI_528, mC_528, mY_528, mZ_528, mF_528, mmd_528, mhi_528, mL_528, mN_528, mfr_528, mX_528, mT_528, mct_528, mtk_528⟩ := u
        obtain ⟨hP1, hK1, hD1⟩ := hB
        rw [ht] at hP1
        obtain ⟨hP, hD⟩ := va_join (wr := [(a0, .inr (0, [.ref aR, .ref aM])), (aR, .inl (cA, 32, .inl R_498)), (aM, .inr (1, [.ref aW, .int us_498, .ref aP, .ref aS, .int sc_498, .int li_498, .ref aC, .int rn_498, .ref aO, .int rd_498, .int st_498])), (aW, .inl (cA, nW, .inl f_498)), (aP, .inl (cA, nE, .inl P_498)), (aS, .inl (cA, nE, .inl S_498)), (aC, .inl (cA, nE, .inl rc_498)), (aO, .inl (cA, nE, .inl ro_498)), (aL, .inl (cL, 1, .inr (.inl ot_498)))]) (w1 := RSw cI cZ b0 bR bI bC bY bZ bF bL bN bX bT mcd_528 mwd men mR_528 mI_528 mC_528 mY_528 mZ_528 mF_528 mmd_528 mhi_528 mL_528 mN_528 mfr_528 mX_528 mT_528 mct_528 mtk_528) hP hD [8, 9, 10, 11, 12, 13, 14, 15, 16, 17, 18] [0, 1, 2, 3, 4, 5, 6, 7, 19] rfl rfl (by decide) (by decide) hk1 hFc hP1 hD1
        have hP := hP.sub (ws' := LMw cA a0 aR aM aW aP aS aC aO nW nE cI cZ b0 bR bI bC bY bZ bF bL bN bX bT cL aL R_498 f_498 us_498 P_498 S_498 sc_498 li_498 rc_498 rn_498 ro_498 rd_498 st_498 mcd_528 mwd men mR_528 mI_528 mC_528 mY_528 mZ_528 mF_528 mmd_528 mhi_528 mL_528 mN_528 mfr_528 mX_528 mT_528 mct_528 mtk_528 ot_498) [0, 1, 2, 3, 4, 5, 6, 7, 9, 10, 11, 12, 13, 14, 15, 16, 17, 18, 19, 8] rfl
        have hD := hD.sub (ws' := LMw cA a0 aR aM aW aP aS aC aO nW nE cI cZ b0 bR bI bC bY bZ bF bL bN bX bT cL aL R_498 f_498 us_498 P_498 S_498 sc_498 li_498 rc_498 rn_498 ro_498 rd_498 st_498 mcd_528 mwd men mR_528 mI_528 mC_528 mY_528 mZ_528 mF_528 mmd_528 mhi_528 mL_528 mN_528 mfr_528 mX_528 mT_528 mct_528 mtk_528 ot_498) [0, 1, 2, 3, 4, 5, 6, 7, 9, 10, 11, 12, 13, 14, 15, 16, 17, 18, 19, 8] (by decide) rfl
        generalize H1 = H at hP hS ⊢
        clear hPc hDc hKc hFc hP1 hD1 hK1 hk1
        try dsimp only at h
        refine lv_istore (lv' := [(6, .int r528), (5, .int r498), (0, .ref b), (1, .ref a0), (2, .ref b0), (3, .ref aL), (4, .int x4)]) hx hb d_L_law_531 hl (by decide) rfl (fun ls hl => ?_)
        refine lv_aload_n hx hb d_L_law_533 rfl (lv_at hl 4 rfl) ?_
        have hPc := hP.sub (ws' := RSw cI cZ b0 bR bI bC bY bZ bF bL bN bX bT mcd_528 mwd men mR_528 mI_528 mC_528 mY_528 mZ_528 mF_528 mmd_528 mhi_528 mL_528 mN_528 mfr_528 mX_528 mT_528 mct_528 mtk_528) [8, 9, 10, 11, 12, 13, 14, 15, 16, 17, 18] rfl
        have hKc := hK.sub (tys' := [(cI, .int), (cZ, .boolean)]) [1, 2] rfl
        refine rq_calli (W.runV (As := []) (rest := []) ⟨hx, hb, hml, hown, hw⟩ (mR_thrown l dC dI cI cZ b0 bR bI bC bY bZ bF bL bN bX bT mcd_528 mwd men mR_528 mI_528 mC_528 mY_528 mZ_528 mF_528 mmd_528 mhi_528 mL_528 mN_528 mfr_528 mX_528 mT_528 mct_528 mtk_528 _ h) (cwV 0 hw g_L_103 rfl rfl rfl (by decide +kernel) ⟨Nat.le_of_ble_eq_true rfl, Nat.le_of_ble_eq_true rfl⟩) (ro_PV (ci := 2) (q0 := 0) hKc hPc rfl rfl) rfl rfl hl.1 rfl (lv_room (Nat.le_of_ble_eq_true rfl)) d_L_law_534 ⟨by show 20 + 8 * (513 - (n + 1)) + 4 + 0 + 0 ≤ 601024; omega, by show 286816 + 48 * (513 - (n + 1)) + 24 + 0 + 0 ≤ 7293000; omega⟩) (fun r534 h => ?_)
        clear hPc hKc
        refine lv_iload hx hb d_L_law_537 (lv_at hl 1 rfl) ?_
        refine lv_icmp_eq (tgt := 544) hx hb d_L_law_539 (by decide) (fun c_539 => ?_) (fun c_539 => ?_)
        · have h := h.1 c_539
          refine lv_iload hx hb d_L_law_544 (lv_at hl 1 rfl) ?_
          refine lv_if_ne (tgt := 561) hx hb d_L_law_546 (by decide) (fun c_546 => ?_) (fun c_546 => ?_)
          · have h := h.2 c_546
            refine lv_goto (tgt := 1529) hx hb d_L_law_561 (by decide) ?_
            refine lv_iinc (v := x4 + (5 : Int32)) (lv' := [(4, .int (x4 + (5 : Int32))), (6, .int r528), (5, .int r498), (0, .ref b), (1, .ref a0), (2, .ref b0), (3, .ref aL)]) hx hb d_L_law_1529 hl (k := 6) rfl rfl (by decide) rfl (fun ls hl => ?_)
            refine lv_goto (tgt := 43) hx hb d_L_law_1532 (by decide) ?_
            refine W.widen (k := 20 + 8 * (513 - n)) (n := 286816 + 48 * (513 - n)) (by omega) (by omega) ?_
            exact ih (by omega) (x4 + (5 : Int32)) R_498 f_498 us_498 P_498 S_498 sc_498 li_498 rc_498 rn_498 ro_498 rd_498 st_498 mcd_528 mwd men mR_528 mI_528 mC_528 mY_528 mZ_528 mF_528 mmd_528 mhi_528 mL_528 mN_528 mfr_528 mX_528 mT_528 mct_528 mtk_528 ot_498 H locs ls hP hD hS (lv_sub hl [3, 4, 5, 6, 0] rfl) h
          · have h := h.1 c_546
            refine lv_aload_n hx hb d_L_law_549 rfl (lv_at hl 5 rfl) ?_
            refine lv_iconst (v := (0 : Int32)) hx hb d_L_law_550 (by decide) ?_
            refine va_lald hx hb hK hP 19 3 rfl rfl h.1 d_L_law_551 ?_
            have h := h.2
            refine lv_iload hx hb d_L_law_552 (lv_at hl 0 rfl) ?_
            refine lv_i2l (v := r528.toInt64) hx hb d_L_law_554 rfl ?_
            refine W.lcmp hx hb d_L_law_555 ?_
            refine lv_if_eq (tgt := 561) hx hb d_L_law_556 (by decide) (fun c_556 => ?_) (fun c_556 => ?_)
            · have h := h.1 c_556
              refine lv_goto (tgt := 1529) hx hb d_L_law_561 (by decide) ?_
              refine lv_iinc (v := x4 + (5 : Int32)) (lv' := [(4, .int (x4 + (5 : Int32))), (6, .int r528), (5, .int r498), (0, .ref b), (1, .ref a0), (2, .ref b0), (3, .ref aL)]) hx hb d_L_law_1529 hl (k := 6) rfl rfl (by decide) rfl (fun ls hl => ?_)
              refine lv_goto (tgt := 43) hx hb d_L_law_1532 (by decide) ?_
              refine W.widen (k := 20 + 8 * (513 - n)) (n := 286816 + 48 * (513 - n)) (by omega) (by omega) ?_
              exact ih (by omega) (x4 + (5 : Int32)) R_498 f_498 us_498 P_498 S_498 sc_498 li_498 rc_498 rn_498 ro_498 rd_498 st_498 mcd_528 mwd men mR_528 mI_528 mC_528 mY_528 mZ_528 mF_528 mmd_528 mhi_528 mL_528 mN_528 mfr_528 mX_528 mT_528 mct_528 mtk_528 ot_498 H locs ls hP hD hS (lv_sub hl [3, 4, 5, 6, 0] rfl) h
            · have h := h.2 c_556
              refine lv_iconst (v := (0 : Int32)) hx hb d_L_law_559 (by decide) ?_
              exact h.elim
        · have h := h.2 c_539
          refine lv_iconst (v := (0 : Int32)) hx hb d_L_law_542 (by decide) ?_
          exact h.elim
      · refine lv_tableIn (tgt := 564) hx hb d_L_law_59 (by decide) (by decide) rfl (by decide) ?_
        have h := h.2.2.2.2.2.2.1 rfl
        refine lv_aload_n hx hb d_L_law_564 rfl (lv_at hl 1 rfl) ?_
        refine lv_aload_n hx hb d_L_law_565 rfl (lv_at hl 0 rfl) ?_
        refine lv_iload hx hb d_L_law_566 (lv_at hl 4 rfl) ?_
        refine lv_iconst (v := (1 : Int32)) hx hb d_L_law_568 (by decide) ?_
        refine lv_iadd hx hb d_L_law_569 ?_
        refine va_sld hx hb hX hbl hbA hS h.1 d_L_law_570 ?_
        have h := h.2
        refine lv_aload_n hx hb d_L_law_571 rfl (lv_at hl 0 rfl) ?_
        refine lv_iload hx hb d_L_law_572 (lv_at hl 4 rfl) ?_
        refine lv_iconst (v := (2 : Int32)) hx hb d_L_law_574 (by decide) ?_
        refine lv_iadd hx hb d_L_law_575 ?_
        refine va_sld hx hb hX hbl hbA hS h.1 d_L_law_576 ?_
        have h := h.2
        refine lv_aload_n hx hb d_L_law_577 rfl (lv_at hl 0 rfl) ?_
        refine lv_iload hx hb d_L_law_578 (lv_at hl 4 rfl) ?_
        refine lv_iconst (v := (3 : Int32)) hx hb d_L_law_580 (by decide) ?_
        refine lv_iadd hx hb d_L_law_581 ?_
        refine va_sld hx hb hX hbl hbA hS h.1 d_L_law_582 ?_
        have h := h.2
        have hPc := hP.sub (ws' := LHw cA a0 aR aM aW aP aS aC aO nW nE cL aL R f us P S sc li rc rn ro rd st ot) [0, 1, 2, 3, 4, 5, 6, 7, 19] rfl
        have hKc := hK.sub (tys' := [(cA, .int), (cL, .long)]) [0, 3] rfl
        have hDc := hD.sub (ws' := LHw cA a0 aR aM aW aP aS aC aO nW nE cL aL R f us P S sc li rc rn ro rd st ot) [0, 1, 2, 3, 4, 5, 6, 7, 19] (by decide) rfl
        have hFc := va_free (wc := LHw cA a0 aR aM aW aP aS aC aO nW nE cL aL R f us P S sc li rc rn ro rd st ot) hD hS hA [0, 1, 2, 3, 4, 5, 6, 7, 19] rfl
        refine va_calli (vx_runSW (As := [.ref a0, .int (xs (x4 + (1 : Int32)).toNatClampNeg), .int (xs (x4 + (2 : Int32)).toNatClampNeg), .int (xs (x4 + (3 : Int32)).toNatClampNeg)]) (rest := []) ⟨hx, hb, hml, hown, hw⟩ (mL_get l hlT sa dC dI cA a0 aR aM aW aP aS aC aO nW nE cL aL H.size R f us P S sc li rc rn ro rd st ot (xs (x4 + (1 : Int32)).toNatClampNeg) (xs (x4 + (2 : Int32)).toNatClampNeg) (xs (x4 + (3 : Int32)).toNatClampNeg) _ h) (vx_cwSW 4 hw g_L_126 rfl rfl rfl (by decide +kernel) ⟨Nat.le_of_ble_eq_true rfl, Nat.le_of_ble_eq_true rfl⟩) (xh_PS hKc hPc hDc (xt_at hXT hS) hFc hNC) rfl rfl hl.1 rfl (lv_room (Nat.le_of_ble_eq_true rfl)) d_L_law_583 ⟨by show 20 + 8 * (513 - (n + 1)) + 4 ≤ 601024; omega, by show 286816 + 48 * (513 - (n + 1)) + 24 ≤ 7293000; omega⟩) hS (fun q _ h => hFc q h) hFc (fun r583 u t H1 locs ht hvm h hB hz1 hk1 hS => ?_)
        obtain ⟨R_583, st_583⟩ := u
        obtain ⟨hP1, hK1, hD1⟩ := hB
        rw [ht] at hP1
        obtain ⟨hP, hD⟩ := va_join (wr := [(b0, .inr (2, [.int mcd, .int mwd, .int men, .ref bR, .ref bI, .ref bC, .ref bY, .ref bZ, .ref bF, .int mmd, .int mhi, .ref bL, .ref bN, .int mfr, .ref bX, .ref bT, .int mct, .int mtk])), (bR, .inl (cI, 32, .inl mR)), (bI, .inl (cI, 8192, .inl mI)), (bC, .inl (cI, 8192, .inl mC)), (bY, .inl (cZ, 8192, .inl mY)), (bZ, .inl (cI, 8192, .inl mZ)), (bF, .inl (cI, 8192, .inl mF)), (bL, .inl (cI, 65536, .inl mL)), (bN, .inl (cI, 65536, .inl mN)), (bX, .inl (cZ, 8192, .inl mX)), (bT, .inl (cI, 8192, .inl mT))]) (w1 := LHw cA a0 aR aM aW aP aS aC aO nW nE cL aL R_583 f us P S sc li rc rn ro rd st_583 ot) hP hD [0, 1, 2, 3, 4, 5, 6, 7, 19] [8, 9, 10, 11, 12, 13, 14, 15, 16, 17, 18] rfl rfl (by decide) (by decide) hk1 hFc hP1 hD1
        have hP := hP.sub (ws' := LMw cA a0 aR aM aW aP aS aC aO nW nE cI cZ b0 bR bI bC bY bZ bF bL bN bX bT cL aL R_583 f us P S sc li rc rn ro rd st_583 mcd mwd men mR mI mC mY mZ mF mmd mhi mL mN mfr mX mT mct mtk ot) [11, 12, 13, 14, 15, 16, 17, 18, 0, 1, 2, 3, 4, 5, 6, 7, 8, 9, 10, 19] rfl
        have hD := hD.sub (ws' := LMw cA a0 aR aM aW aP aS aC aO nW nE cI cZ b0 bR bI bC bY bZ bF bL bN bX bT cL aL R_583 f us P S sc li rc rn ro rd st_583 mcd mwd men mR mI mC mY mZ mF mmd mhi mL mN mfr mX mT mct mtk ot) [11, 12, 13, 14, 15, 16, 17, 18, 0, 1, 2, 3, 4, 5, 6, 7, 8, 9, 10, 19] (by decide) rfl
        generalize H1 = H at hP hS ⊢
        clear hPc hDc hKc hFc hP1 hD1 hK1 hk1
        try dsimp only at h
        refine lv_istore (lv' := [(5, .int r583), (0, .ref b), (1, .ref a0), (2, .ref b0), (3, .ref aL), (4, .int x4)]) hx hb d_L_law_586 hl (by decide) rfl (fun ls hl => ?_)
        refine lv_aload_n hx hb d_L_law_588 rfl (lv_at hl 3 rfl) ?_
        refine lv_aload_n hx hb d_L_law_589 rfl (lv_at hl 1 rfl) ?_
        refine lv_iload hx hb d_L_law_590 (lv_at hl 5 rfl) ?_
        refine lv_iconst (v := (1 : Int32)) hx hb d_L_law_592 (by decide) ?_
        refine lv_iadd hx hb d_L_law_593 ?_
        refine va_sld hx hb hX hbl hbA hS h.1 d_L_law_594 ?_
        have h := h.2
        refine lv_aload_n hx hb d_L_law_595 rfl (lv_at hl 1 rfl) ?_
        refine lv_iload hx hb d_L_law_596 (lv_at hl 5 rfl) ?_
        refine lv_iconst (v := (2 : Int32)) hx hb d_L_law_598 (by decide) ?_
        refine lv_iadd hx hb d_L_law_599 ?_
        refine va_sld hx hb hX hbl hbA hS h.1 d_L_law_600 ?_
        have h := h.2
        refine lv_aload_n hx hb d_L_law_601 rfl (lv_at hl 1 rfl) ?_
        refine lv_iload hx hb d_L_law_602 (lv_at hl 5 rfl) ?_
        refine lv_iconst (v := (3 : Int32)) hx hb d_L_law_604 (by decide) ?_
        refine lv_iadd hx hb d_L_law_605 ?_
        refine va_sld hx hb hX hbl hbA hS h.1 d_L_law_606 ?_
        have h := h.2
        have hPc := hP.sub (ws' := RSw cI cZ b0 bR bI bC bY bZ bF bL bN bX bT mcd mwd men mR mI mC mY mZ mF mmd mhi mL mN mfr mX mT mct mtk) [8, 9, 10, 11, 12, 13, 14, 15, 16, 17, 18] rfl
        have hKc := hK.sub (tys' := [(cI, .int), (cZ, .boolean)]) [1, 2] rfl
        have hDc := hD.sub (ws' := RSw cI cZ b0 bR bI bC bY bZ bF bL bN bX bT mcd mwd men mR mI mC mY mZ mF mmd mhi mL mN mfr mX mT mct mtk) [8, 9, 10, 11, 12, 13, 14, 15, 16, 17, 18] (by decide) rfl
        have hFc := va_free (wc := RSw cI cZ b0 bR bI bC bY bZ bF bL bN bX bT mcd mwd men mR mI mC mY mZ mF mmd mhi mL mN mfr mX mT mct mtk) hD hS hA [8, 9, 10, 11, 12, 13, 14, 15, 16, 17, 18] rfl
        refine va_callv (va_runV (As := [.int (xs (x4 + (1 : Int32)).toNatClampNeg), .int (xs (x4 + (2 : Int32)).toNatClampNeg), .int (xs (x4 + (3 : Int32)).toNatClampNeg)]) (rest := []) ⟨hx, hb, hml, hown, hw⟩ (mR_get l dC dI cI cZ b0 bR bI bC bY bZ bF bL bN bX bT H.size mcd mwd men mR mI mC mY mZ mF mmd mhi mL mN mfr mX mT mct mtk (xs (x4 + (1 : Int32)).toNatClampNeg) (xs (x4 + (2 : Int32)).toNatClampNeg) (xs (x4 + (3 : Int32)).toNatClampNeg) _ h) (cwV 3 hw g_L_129 rfl rfl rfl (by decide +kernel) ⟨Nat.le_of_ble_eq_true rfl, Nat.le_of_ble_eq_true rfl⟩) (rw_PV (ci := 2) (q0 := 0) hKc hPc hDc rfl rfl) rfl rfl hl.1 rfl (lv_room (Nat.le_of_ble_eq_true rfl)) d_L_law_607 ⟨by show 20 + 8 * (513 - (n + 1)) + 4 + 0 ≤ 601024; omega, by show 286816 + 48 * (513 - (n + 1)) + 24 + 0 ≤ 7293000; omega⟩) hS (fun q _ h => hFc q h) hFc (fun u t H1 locs ht hvm h hB hz1 hk1 hS => ?_)
        obtain ⟨mcd_607, mR_607⟩ := u
        obtain ⟨hP1, hK1, hD1⟩ := hB
        rw [ht] at hP1
        obtain ⟨hP, hD⟩ := va_join (wr := [(a0, .inr (0, [.ref aR, .ref aM])), (aR, .inl (cA, 32, .inl R_583)), (aM, .inr (1, [.ref aW, .int us, .ref aP, .ref aS, .int sc, .int li, .ref aC, .int rn, .ref aO, .int rd, .int st_583])), (aW, .inl (cA, nW, .inl f)), (aP, .inl (cA, nE, .inl P)), (aS, .inl (cA, nE, .inl S)), (aC, .inl (cA, nE, .inl rc)), (aO, .inl (cA, nE, .inl ro)), (aL, .inl (cL, 1, .inr (.inl ot)))]) (w1 := RSw cI cZ b0 bR bI bC bY bZ bF bL bN bX bT mcd_607 mwd men mR_607 mI mC mY mZ mF mmd mhi mL mN mfr mX mT mct mtk) hP hD [8, 9, 10, 11, 12, 13, 14, 15, 16, 17, 18] [0, 1, 2, 3, 4, 5, 6, 7, 19] rfl rfl (by decide) (by decide) hk1 hFc hP1 hD1
        have hP := hP.sub (ws' := LMw cA a0 aR aM aW aP aS aC aO nW nE cI cZ b0 bR bI bC bY bZ bF bL bN bX bT cL aL R_583 f us P S sc li rc rn ro rd st_583 mcd_607 mwd men mR_607 mI mC mY mZ mF mmd mhi mL mN mfr mX mT mct mtk ot) [0, 1, 2, 3, 4, 5, 6, 7, 9, 10, 11, 12, 13, 14, 15, 16, 17, 18, 19, 8] rfl
        have hD := hD.sub (ws' := LMw cA a0 aR aM aW aP aS aC aO nW nE cI cZ b0 bR bI bC bY bZ bF bL bN bX bT cL aL R_583 f us P S sc li rc rn ro rd st_583 mcd_607 mwd men mR_607 mI mC mY mZ mF mmd mhi mL mN mfr mX mT mct mtk ot) [0, 1, 2, 3, 4, 5, 6, 7, 9, 10, 11, 12, 13, 14, 15, 16, 17, 18, 19, 8] (by decide) rfl
        generalize H1 = H at hP hS ⊢
        clear hPc hDc hKc hFc hP1 hD1 hK1 hk1
        try dsimp only at h
        refine lv_aload_n hx hb d_L_law_610 rfl (lv_at hl 3 rfl) ?_
        have hPc := hP.sub (ws' := RSw cI cZ b0 bR bI bC bY bZ bF bL bN bX bT mcd_607 mwd men mR_607 mI mC mY mZ mF mmd mhi mL mN mfr mX mT mct mtk) [8, 9, 10, 11, 12, 13, 14, 15, 16, 17, 18] rfl
        have hKc := hK.sub (tys' := [(cI, .int), (cZ, .boolean)]) [1, 2] rfl
        refine rq_calli (W.runV (As := []) (rest := []) ⟨hx, hb, hml, hown, hw⟩ (mR_thrown l dC dI cI cZ b0 bR bI bC bY bZ bF bL bN bX bT mcd_607 mwd men mR_607 mI mC mY mZ mF mmd mhi mL mN mfr mX mT mct mtk _ h) (cwV 0 hw g_L_103 rfl rfl rfl (by decide +kernel) ⟨Nat.le_of_ble_eq_true rfl, Nat.le_of_ble_eq_true rfl⟩) (ro_PV (ci := 2) (q0 := 0) hKc hPc rfl rfl) rfl rfl hl.1 rfl (lv_room (Nat.le_of_ble_eq_true rfl)) d_L_law_611 ⟨by show 20 + 8 * (513 - (n + 1)) + 4 + 0 + 0 ≤ 601024; omega, by show 286816 + 48 * (513 - (n + 1)) + 24 + 0 + 0 ≤ 7293000; omega⟩) (fun r611 h => ?_)
        clear hPc hKc
        refine lv_iload hx hb d_L_law_614 (lv_at hl 0 rfl) ?_
        refine lv_icmp_eq (tgt := 621) hx hb d_L_law_616 (by decide) (fun c_616 => ?_) (fun c_616 => ?_)
        · have h := h.1 c_616
          refine lv_goto (tgt := 1529) hx hb d_L_law_621 (by decide) ?_
          refine lv_iinc (v := x4 + (5 : Int32)) (lv' := [(4, .int (x4 + (5 : Int32))), (5, .int r583), (0, .ref b), (1, .ref a0), (2, .ref b0), (3, .ref aL)]) hx hb d_L_law_1529 hl (k := 5) rfl rfl (by decide) rfl (fun ls hl => ?_)
          refine lv_goto (tgt := 43) hx hb d_L_law_1532 (by decide) ?_
          refine W.widen (k := 20 + 8 * (513 - n)) (n := 286816 + 48 * (513 - n)) (by omega) (by omega) ?_
          exact ih (by omega) (x4 + (5 : Int32)) R_583 f us P S sc li rc rn ro rd st_583 mcd_607 mwd men mR_607 mI mC mY mZ mF mmd mhi mL mN mfr mX mT mct mtk ot H locs ls hP hD hS (lv_sub hl [2, 3, 4, 5, 0] rfl) h
        · have h := h.2 c_616
          refine lv_iconst (v := (0 : Int32)) hx hb d_L_law_619 (by decide) ?_
          exact h.elim
      · refine lv_tableIn (tgt := 624) hx hb d_L_law_59 (by decide) (by decide) rfl (by decide) ?_
        have h := h.2.2.2.2.2.2.2.1 rfl
        refine lv_aload_n hx hb d_L_law_624 rfl (lv_at hl 1 rfl) ?_
        refine lv_aload_n hx hb d_L_law_625 rfl (lv_at hl 0 rfl) ?_
        refine lv_iload hx hb d_L_law_626 (lv_at hl 4 rfl) ?_
        refine lv_iconst (v := (1 : Int32)) hx hb d_L_law_628 (by decide) ?_
        refine lv_iadd hx hb d_L_law_629 ?_
        refine va_sld hx hb hX hbl hbA hS h.1 d_L_law_630 ?_
        have h := h.2
        refine lv_aload_n hx hb d_L_law_631 rfl (lv_at hl 0 rfl) ?_
        refine lv_iload hx hb d_L_law_632 (lv_at hl 4 rfl) ?_
        refine lv_iconst (v := (2 : Int32)) hx hb d_L_law_634 (by decide) ?_
        refine lv_iadd hx hb d_L_law_635 ?_
        refine va_sld hx hb hX hbl hbA hS h.1 d_L_law_636 ?_
        have h := h.2
        refine lv_aload_n hx hb d_L_law_637 rfl (lv_at hl 0 rfl) ?_
        refine lv_iload hx hb d_L_law_638 (lv_at hl 4 rfl) ?_
        refine lv_iconst (v := (3 : Int32)) hx hb d_L_law_640 (by decide) ?_
        refine lv_iadd hx hb d_L_law_641 ?_
        refine va_sld hx hb hX hbl hbA hS h.1 d_L_law_642 ?_
        have h := h.2
        have hPc := hP.sub (ws' := LHw cA a0 aR aM aW aP aS aC aO nW nE cL aL R f us P S sc li rc rn ro rd st ot) [0, 1, 2, 3, 4, 5, 6, 7, 19] rfl
        have hKc := hK.sub (tys' := [(cA, .int), (cL, .long)]) [0, 3] rfl
        have hDc := hD.sub (ws' := LHw cA a0 aR aM aW aP aS aC aO nW nE cL aL R f us P S sc li rc rn ro rd st ot) [0, 1, 2, 3, 4, 5, 6, 7, 19] (by decide) rfl
        have hFc := va_free (wc := LHw cA a0 aR aM aW aP aS aC aO nW nE cL aL R f us P S sc li rc rn ro rd st ot) hD hS hA [0, 1, 2, 3, 4, 5, 6, 7, 19] rfl
        refine va_calli (vx_runSW (As := [.ref a0, .int (xs (x4 + (1 : Int32)).toNatClampNeg), .int (xs (x4 + (2 : Int32)).toNatClampNeg), .int (xs (x4 + (3 : Int32)).toNatClampNeg)]) (rest := []) ⟨hx, hb, hml, hown, hw⟩ (mL_put l hlT sa dC dI cA a0 aR aM aW aP aS aC aO nW nE cL aL H.size R f us P S sc li rc rn ro rd st ot (xs (x4 + (1 : Int32)).toNatClampNeg) (xs (x4 + (2 : Int32)).toNatClampNeg) (xs (x4 + (3 : Int32)).toNatClampNeg) _ h) (vx_cwSW 4 hw g_L_130 rfl rfl rfl (by decide +kernel) ⟨Nat.le_of_ble_eq_true rfl, Nat.le_of_ble_eq_true rfl⟩) (xh_PS hKc hPc hDc (xt_at hXT hS) hFc hNC) rfl rfl hl.1 rfl (lv_room (Nat.le_of_ble_eq_true rfl)) d_L_law_643 ⟨by show 20 + 8 * (513 - (n + 1)) + 4 ≤ 601024; omega, by show 286816 + 48 * (513 - (n + 1)) + 24 ≤ 7293000; omega⟩) hS (fun q _ h => hFc q h) hFc (fun r643 u t H1 locs ht hvm h hB hz1 hk1 hS => ?_)
        obtain ⟨f_643, st_643⟩ := u
        obtain ⟨hP1, hK1, hD1⟩ := hB
        rw [ht] at hP1
        obtain ⟨hP, hD⟩ := va_join (wr := [(b0, .inr (2, [.int mcd, .int mwd, .int men, .ref bR, .ref bI, .ref bC, .ref bY, .ref bZ, .ref bF, .int mmd, .int mhi, .ref bL, .ref bN, .int mfr, .ref bX, .ref bT, .int mct, .int mtk])), (bR, .inl (cI, 32, .inl mR)), (bI, .inl (cI, 8192, .inl mI)), (bC, .inl (cI, 8192, .inl mC)), (bY, .inl (cZ, 8192, .inl mY)), (bZ, .inl (cI, 8192, .inl mZ)), (bF, .inl (cI, 8192, .inl mF)), (bL, .inl (cI, 65536, .inl mL)), (bN, .inl (cI, 65536, .inl mN)), (bX, .inl (cZ, 8192, .inl mX)), (bT, .inl (cI, 8192, .inl mT))]) (w1 := LHw cA a0 aR aM aW aP aS aC aO nW nE cL aL R f_643 us P S sc li rc rn ro rd st_643 ot) hP hD [0, 1, 2, 3, 4, 5, 6, 7, 19] [8, 9, 10, 11, 12, 13, 14, 15, 16, 17, 18] rfl rfl (by decide) (by decide) hk1 hFc hP1 hD1
        have hP := hP.sub (ws' := LMw cA a0 aR aM aW aP aS aC aO nW nE cI cZ b0 bR bI bC bY bZ bF bL bN bX bT cL aL R f_643 us P S sc li rc rn ro rd st_643 mcd mwd men mR mI mC mY mZ mF mmd mhi mL mN mfr mX mT mct mtk ot) [11, 12, 13, 14, 15, 16, 17, 18, 0, 1, 2, 3, 4, 5, 6, 7, 8, 9, 10, 19] rfl
        have hD := hD.sub (ws' := LMw cA a0 aR aM aW aP aS aC aO nW nE cI cZ b0 bR bI bC bY bZ bF bL bN bX bT cL aL R f_643 us P S sc li rc rn ro rd st_643 mcd mwd men mR mI mC mY mZ mF mmd mhi mL mN mfr mX mT mct mtk ot) [11, 12, 13, 14, 15, 16, 17, 18, 0, 1, 2, 3, 4, 5, 6, 7, 8, 9, 10, 19] (by decide) rfl
        generalize H1 = H at hP hS ⊢
        clear hPc hDc hKc hFc hP1 hD1 hK1 hk1
        try dsimp only at h
        refine lv_istore (lv' := [(5, .int r643), (0, .ref b), (1, .ref a0), (2, .ref b0), (3, .ref aL), (4, .int x4)]) hx hb d_L_law_646 hl (by decide) rfl (fun ls hl => ?_)
        refine lv_aload_n hx hb d_L_law_648 rfl (lv_at hl 3 rfl) ?_
        refine lv_aload_n hx hb d_L_law_649 rfl (lv_at hl 1 rfl) ?_
        refine lv_iload hx hb d_L_law_650 (lv_at hl 5 rfl) ?_
        refine lv_iconst (v := (1 : Int32)) hx hb d_L_law_652 (by decide) ?_
        refine lv_iadd hx hb d_L_law_653 ?_
        refine va_sld hx hb hX hbl hbA hS h.1 d_L_law_654 ?_
        have h := h.2
        refine lv_aload_n hx hb d_L_law_655 rfl (lv_at hl 1 rfl) ?_
        refine lv_iload hx hb d_L_law_656 (lv_at hl 5 rfl) ?_
        refine lv_iconst (v := (2 : Int32)) hx hb d_L_law_658 (by decide) ?_
        refine lv_iadd hx hb d_L_law_659 ?_
        refine va_sld hx hb hX hbl hbA hS h.1 d_L_law_660 ?_
        have h := h.2
        refine lv_aload_n hx hb d_L_law_661 rfl (lv_at hl 1 rfl) ?_
        refine lv_iload hx hb d_L_law_662 (lv_at hl 5 rfl) ?_
        refine lv_iconst (v := (3 : Int32)) hx hb d_L_law_664 (by decide) ?_
        refine lv_iadd hx hb d_L_law_665 ?_
        refine va_sld hx hb hX hbl hbA hS h.1 d_L_law_666 ?_
        have h := h.2
        have hPc := hP.sub (ws' := RSw cI cZ b0 bR bI bC bY bZ bF bL bN bX bT mcd mwd men mR mI mC mY mZ mF mmd mhi mL mN mfr mX mT mct mtk) [8, 9, 10, 11, 12, 13, 14, 15, 16, 17, 18] rfl
        have hKc := hK.sub (tys' := [(cI, .int), (cZ, .boolean)]) [1, 2] rfl
        have hDc := hD.sub (ws' := RSw cI cZ b0 bR bI bC bY bZ bF bL bN bX bT mcd mwd men mR mI mC mY mZ mF mmd mhi mL mN mfr mX mT mct mtk) [8, 9, 10, 11, 12, 13, 14, 15, 16, 17, 18] (by decide) rfl
        have hFc := va_free (wc := RSw cI cZ b0 bR bI bC bY bZ bF bL bN bX bT mcd mwd men mR mI mC mY mZ mF mmd mhi mL mN mfr mX mT mct mtk) hD hS hA [8, 9, 10, 11, 12, 13, 14, 15, 16, 17, 18] rfl
        refine va_callv (va_runV (As := [.int (xs (x4 + (1 : Int32)).toNatClampNeg), .int (xs (x4 + (2 : Int32)).toNatClampNeg), .int (xs (x4 + (3 : Int32)).toNatClampNeg)]) (rest := []) ⟨hx, hb, hml, hown, hw⟩ (mR_put l dC dI cI cZ b0 bR bI bC bY bZ bF bL bN bX bT H.size mcd mwd men mR mI mC mY mZ mF mmd mhi mL mN mfr mX mT mct mtk (xs (x4 + (1 : Int32)).toNatClampNeg) (xs (x4 + (2 : Int32)).toNatClampNeg) (xs (x4 + (3 : Int32)).toNatClampNeg) _ h) (cwV 3 hw g_L_132 rfl rfl rfl (by decide +kernel) ⟨Nat.le_of_ble_eq_true rfl, Nat.le_of_ble_eq_true rfl⟩) (rw_PV (ci := 2) (q0 := 0) hKc hPc hDc rfl rfl) rfl rfl hl.1 rfl (lv_room (Nat.le_of_ble_eq_true rfl)) d_L_law_667 ⟨by show 20 + 8 * (513 - (n + 1)) + 4 + 0 ≤ 601024; omega, by show 286816 + 48 * (513 - (n + 1)) + 24 + 0 ≤ 7293000; omega⟩) hS (fun q _ h => hFc q h) hFc (fun u t H1 locs ht hvm h hB hz1 hk1 hS => ?_)
        obtain ⟨mcd_667, mL_667⟩ := u
        obtain ⟨hP1, hK1, hD1⟩ := hB
        rw [ht] at hP1
        obtain ⟨hP, hD⟩ := va_join (wr := [(a0, .inr (0, [.ref aR, .ref aM])), (aR, .inl (cA, 32, .inl R)), (aM, .inr (1, [.ref aW, .int us, .ref aP, .ref aS, .int sc, .int li, .ref aC, .int rn, .ref aO, .int rd, .int st_643])), (aW, .inl (cA, nW, .inl f_643)), (aP, .inl (cA, nE, .inl P)), (aS, .inl (cA, nE, .inl S)), (aC, .inl (cA, nE, .inl rc)), (aO, .inl (cA, nE, .inl ro)), (aL, .inl (cL, 1, .inr (.inl ot)))]) (w1 := RSw cI cZ b0 bR bI bC bY bZ bF bL bN bX bT mcd_667 mwd men mR mI mC mY mZ mF mmd mhi mL_667 mN mfr mX mT mct mtk) hP hD [8, 9, 10, 11, 12, 13, 14, 15, 16, 17, 18] [0, 1, 2, 3, 4, 5, 6, 7, 19] rfl rfl (by decide) (by decide) hk1 hFc hP1 hD1
        have hP := hP.sub (ws' := LMw cA a0 aR aM aW aP aS aC aO nW nE cI cZ b0 bR bI bC bY bZ bF bL bN bX bT cL aL R f_643 us P S sc li rc rn ro rd st_643 mcd_667 mwd men mR mI mC mY mZ mF mmd mhi mL_667 mN mfr mX mT mct mtk ot) [0, 1, 2, 3, 4, 5, 6, 7, 9, 10, 11, 12, 13, 14, 15, 16, 17, 18, 19, 8] rfl
        have hD := hD.sub (ws' := LMw cA a0 aR aM aW aP aS aC aO nW nE cI cZ b0 bR bI bC bY bZ bF bL bN bX bT cL aL R f_643 us P S sc li rc rn ro rd st_643 mcd_667 mwd men mR mI mC mY mZ mF mmd mhi mL_667 mN mfr mX mT mct mtk ot) [0, 1, 2, 3, 4, 5, 6, 7, 9, 10, 11, 12, 13, 14, 15, 16, 17, 18, 19, 8] (by decide) rfl
        generalize H1 = H at hP hS ⊢
        clear hPc hDc hKc hFc hP1 hD1 hK1 hk1
        try dsimp only at h
        refine lv_aload_n hx hb d_L_law_670 rfl (lv_at hl 3 rfl) ?_
        have hPc := hP.sub (ws' := RSw cI cZ b0 bR bI bC bY bZ bF bL bN bX bT mcd_667 mwd men mR mI mC mY mZ mF mmd mhi mL_667 mN mfr mX mT mct mtk) [8, 9, 10, 11, 12, 13, 14, 15, 16, 17, 18] rfl
        have hKc := hK.sub (tys' := [(cI, .int), (cZ, .boolean)]) [1, 2] rfl
        refine rq_calli (W.runV (As := []) (rest := []) ⟨hx, hb, hml, hown, hw⟩ (mR_thrown l dC dI cI cZ b0 bR bI bC bY bZ bF bL bN bX bT mcd_667 mwd men mR mI mC mY mZ mF mmd mhi mL_667 mN mfr mX mT mct mtk _ h) (cwV 0 hw g_L_103 rfl rfl rfl (by decide +kernel) ⟨Nat.le_of_ble_eq_true rfl, Nat.le_of_ble_eq_true rfl⟩) (ro_PV (ci := 2) (q0 := 0) hKc hPc rfl rfl) rfl rfl hl.1 rfl (lv_room (Nat.le_of_ble_eq_true rfl)) d_L_law_671 ⟨by show 20 + 8 * (513 - (n + 1)) + 4 + 0 + 0 ≤ 601024; omega, by show 286816 + 48 * (513 - (n + 1)) + 24 + 0 + 0 ≤ 7293000; omega⟩) (fun r671 h => ?_)
        clear hPc hKc
        refine lv_iload hx hb d_L_law_674 (lv_at hl 0 rfl) ?_
        refine lv_icmp_eq (tgt := 681) hx hb d_L_law_676 (by decide) (fun c_676 => ?_) (fun c_676 => ?_)
        · have h := h.1 c_676
          refine lv_goto (tgt := 1529) hx hb d_L_law_681 (by decide) ?_
          refine lv_iinc (v := x4 + (5 : Int32)) (lv' := [(4, .int (x4 + (5 : Int32))), (5, .int r643), (0, .ref b), (1, .ref a0), (2, .ref b0), (3, .ref aL)]) hx hb d_L_law_1529 hl (k := 5) rfl rfl (by decide) rfl (fun ls hl => ?_)
          refine lv_goto (tgt := 43) hx hb d_L_law_1532 (by decide) ?_
          refine W.widen (k := 20 + 8 * (513 - n)) (n := 286816 + 48 * (513 - n)) (by omega) (by omega) ?_
          exact ih (by omega) (x4 + (5 : Int32)) R f_643 us P S sc li rc rn ro rd st_643 mcd_667 mwd men mR mI mC mY mZ mF mmd mhi mL_667 mN mfr mX mT mct mtk ot H locs ls hP hD hS (lv_sub hl [2, 3, 4, 5, 0] rfl) h
        · have h := h.2 c_676
          refine lv_iconst (v := (0 : Int32)) hx hb d_L_law_679 (by decide) ?_
          exact h.elim
      · refine lv_tableIn (tgt := 684) hx hb d_L_law_59 (by decide) (by decide) rfl (by decide) ?_
        have h := h.2.2.2.2.2.2.2.2.1 rfl
        refine lv_aload_n hx hb d_L_law_684 rfl (lv_at hl 1 rfl) ?_
        refine lv_aload_n hx hb d_L_law_685 rfl (lv_at hl 0 rfl) ?_
        refine lv_iload hx hb d_L_law_686 (lv_at hl 4 rfl) ?_
        refine lv_iconst (v := (1 : Int32)) hx hb d_L_law_688 (by decide) ?_
        refine lv_iadd hx hb d_L_law_689 ?_
        refine va_sld hx hb hX hbl hbA hS h.1 d_L_law_690 ?_
        have h := h.2
        refine lv_aload_n hx hb d_L_law_691 rfl (lv_at hl 0 rfl) ?_
        refine lv_iload hx hb d_L_law_692 (lv_at hl 4 rfl) ?_
        refine lv_iconst (v := (2 : Int32)) hx hb d_L_law_694 (by decide) ?_
        refine lv_iadd hx hb d_L_law_695 ?_
        refine va_sld hx hb hX hbl hbA hS h.1 d_L_law_696 ?_
        have h := h.2
        refine lv_aload_n hx hb d_L_law_697 rfl (lv_at hl 0 rfl) ?_
        refine lv_iload hx hb d_L_law_698 (lv_at hl 4 rfl) ?_
        refine lv_iconst (v := (3 : Int32)) hx hb d_L_law_700 (by decide) ?_
        refine lv_iadd hx hb d_L_law_701 ?_
        refine va_sld hx hb hX hbl hbA hS h.1 d_L_law_702 ?_
        have h := h.2
        refine lv_aload_n hx hb d_L_law_703 rfl (lv_at hl 3 rfl) ?_
        have hPc := hP.sub (ws' := LHw cA a0 aR aM aW aP aS aC aO nW nE cL aL R f us P S sc li rc rn ro rd st ot) [0, 1, 2, 3, 4, 5, 6, 7, 19] rfl
        have hKc := hK.sub (tys' := [(cA, .int), (cL, .long)]) [0, 3] rfl
        have hDc := hD.sub (ws' := LHw cA a0 aR aM aW aP aS aC aO nW nE cL aL R f us P S sc li rc rn ro rd st ot) [0, 1, 2, 3, 4, 5, 6, 7, 19] (by decide) rfl
        have hFc := va_free (wc := LHw cA a0 aR aM aW aP aS aC aO nW nE cL aL R f us P S sc li rc rn ro rd st ot) hD hS hA [0, 1, 2, 3, 4, 5, 6, 7, 19] rfl
        refine va_calli (vx_runSW (As := [.ref a0, .int (xs (x4 + (1 : Int32)).toNatClampNeg), .int (xs (x4 + (2 : Int32)).toNatClampNeg), .int (xs (x4 + (3 : Int32)).toNatClampNeg), .ref aL]) (rest := []) ⟨hx, hb, hml, hown, hw⟩ (mL_walk l hlT sa dC dI cA a0 aR aM aW aP aS aC aO nW nE cL aL H.size R f us P S sc li rc rn ro rd st ot (xs (x4 + (1 : Int32)).toNatClampNeg) (xs (x4 + (2 : Int32)).toNatClampNeg) (xs (x4 + (3 : Int32)).toNatClampNeg) _ h) (vx_cwSW 5 hw g_L_133 rfl rfl rfl (by decide +kernel) ⟨Nat.le_of_ble_eq_true rfl, Nat.le_of_ble_eq_true rfl⟩) (xh_PS hKc hPc hDc (xt_at hXT hS) hFc hNC) rfl rfl hl.1 rfl (lv_room (Nat.le_of_ble_eq_true rfl)) d_L_law_704 ⟨by show 20 + 8 * (513 - (n + 1)) + 2 ≤ 601024; omega, by show 286816 + 48 * (513 - (n + 1)) + 12 ≤ 7293000; omega⟩) hS (fun q _ h => hFc q h) hFc (fun r704 u t H1 locs ht hvm h hB hz1 hk1 hS => ?_)
        obtain ⟨R_704, st_704, ot_704⟩ := u
        obtain ⟨hP1, hK1, hD1⟩ := hB
        rw [ht] at hP1
        obtain ⟨hP, hD⟩ := va_join (wr := [(b0, .inr (2, [.int mcd, .int mwd, .int men, .ref bR, .ref bI, .ref bC, .ref bY, .ref bZ, .ref bF, .int mmd, .int mhi, .ref bL, .ref bN, .int mfr, .ref bX, .ref bT, .int mct, .int mtk])), (bR, .inl (cI, 32, .inl mR)), (bI, .inl (cI, 8192, .inl mI)), (bC, .inl (cI, 8192, .inl mC)), (bY, .inl (cZ, 8192, .inl mY)), (bZ, .inl (cI, 8192, .inl mZ)), (bF, .inl (cI, 8192, .inl mF)), (bL, .inl (cI, 65536, .inl mL)), (bN, .inl (cI, 65536, .inl mN)), (bX, .inl (cZ, 8192, .inl mX)), (bT, .inl (cI, 8192, .inl mT))]) (w1 := LHw cA a0 aR aM aW aP aS aC aO nW nE cL aL R_704 f us P S sc li rc rn ro rd st_704 ot_704) hP hD [0, 1, 2, 3, 4, 5, 6, 7, 19] [8, 9, 10, 11, 12, 13, 14, 15, 16, 17, 18] rfl rfl (by decide) (by decide) hk1 hFc hP1 hD1
        have hP := hP.sub (ws' := LMw cA a0 aR aM aW aP aS aC aO nW nE cI cZ b0 bR bI bC bY bZ bF bL bN bX bT cL aL R_704 f us P S sc li rc rn ro rd st_704 mcd mwd men mR mI mC mY mZ mF mmd mhi mL mN mfr mX mT mct mtk ot_704) [11, 12, 13, 14, 15, 16, 17, 18, 0, 1, 2, 3, 4, 5, 6, 7, 8, 9, 10, 19] rfl
        have hD := hD.sub (ws' := LMw cA a0 aR aM aW aP aS aC aO nW nE cI cZ b0 bR bI bC bY bZ bF bL bN bX bT cL aL R_704 f us P S sc li rc rn ro rd st_704 mcd mwd men mR mI mC mY mZ mF mmd mhi mL mN mfr mX mT mct mtk ot_704) [11, 12, 13, 14, 15, 16, 17, 18, 0, 1, 2, 3, 4, 5, 6, 7, 8, 9, 10, 19] (by decide) rfl
        generalize H1 = H at hP hS ⊢
        clear hPc hDc hKc hFc hP1 hD1 hK1 hk1
        try dsimp only at h
        refine lv_istore (lv' := [(5, .int r704), (0, .ref b), (1, .ref a0), (2, .ref b0), (3, .ref aL), (4, .int x4)]) hx hb d_L_law_707 hl (by decide) rfl (fun ls hl => ?_)
        refine lv_aload_n hx hb d_L_law_709 rfl (lv_at hl 3 rfl) ?_
        refine lv_aload_n hx hb d_L_law_710 rfl (lv_at hl 1 rfl) ?_
        refine lv_iload hx hb d_L_law_711 (lv_at hl 5 rfl) ?_
        refine lv_iconst (v := (1 : Int32)) hx hb d_L_law_713 (by decide) ?_
        refine lv_iadd hx hb d_L_law_714 ?_
        refine va_sld hx hb hX hbl hbA hS h.1 d_L_law_715 ?_
        have h := h.2
        refine lv_aload_n hx hb d_L_law_716 rfl (lv_at hl 1 rfl) ?_
        refine lv_iload hx hb d_L_law_717 (lv_at hl 5 rfl) ?_
        refine lv_iconst (v := (2 : Int32)) hx hb d_L_law_719 (by decide) ?_
        refine lv_iadd hx hb d_L_law_720 ?_
        refine va_sld hx hb hX hbl hbA hS h.1 d_L_law_721 ?_
        have h := h.2
        refine lv_aload_n hx hb d_L_law_722 rfl (lv_at hl 1 rfl) ?_
        refine lv_iload hx hb d_L_law_723 (lv_at hl 5 rfl) ?_
        refine lv_iconst (v := (3 : Int32)) hx hb d_L_law_725 (by decide) ?_
        refine lv_iadd hx hb d_L_law_726 ?_
        refine va_sld hx hb hX hbl hbA hS h.1 d_L_law_727 ?_
        have h := h.2
        have hPc := hP.sub (ws' := RSw cI cZ b0 bR bI bC bY bZ bF bL bN bX bT mcd mwd men mR mI mC mY mZ mF mmd mhi mL mN mfr mX mT mct mtk) [8, 9, 10, 11, 12, 13, 14, 15, 16, 17, 18] rfl
        have hKc := hK.sub (tys' := [(cI, .int), (cZ, .boolean)]) [1, 2] rfl
        have hDc := hD.sub (ws' := RSw cI cZ b0 bR bI bC bY bZ bF bL bN bX bT mcd mwd men mR mI mC mY mZ mF mmd mhi mL mN mfr mX mT mct mtk) [8, 9, 10, 11, 12, 13, 14, 15, 16, 17, 18] (by decide) rfl
        have hFc := va_free (wc := RSw cI cZ b0 bR bI bC bY bZ bF bL bN bX bT mcd mwd men mR mI mC mY mZ mF mmd mhi mL mN mfr mX mT mct mtk) hD hS hA [8, 9, 10, 11, 12, 13, 14, 15, 16, 17, 18] rfl
        refine va_calli (va_runV (As := [.int (xs (x4 + (1 : Int32)).toNatClampNeg), .int (xs (x4 + (2 : Int32)).toNatClampNeg), .int (xs (x4 + (3 : Int32)).toNatClampNeg)]) (rest := []) ⟨hx, hb, hml, hown, hw⟩ (mR_walk l dC dI cI cZ b0 bR bI bC bY bZ bF bL bN bX bT H.size mcd mwd men mR mI mC mY mZ mF mmd mhi mL mN mfr mX mT mct mtk (xs (x4 + (1 : Int32)).toNatClampNeg) (xs (x4 + (2 : Int32)).toNatClampNeg) (xs (x4 + (3 : Int32)).toNatClampNeg) _ h) (cwV 3 hw g_L_136 rfl rfl rfl (by decide +kernel) ⟨Nat.le_of_ble_eq_true rfl, Nat.le_of_ble_eq_true rfl⟩) (rw_PV (ci := 2) (q0 := 0) hKc hPc hDc rfl rfl) rfl rfl hl.1 rfl (lv_room (Nat.le_of_ble_eq_true rfl)) d_L_law_728 ⟨by show 20 + 8 * (513 - (n + 1)) + 2 + 0 ≤ 601024; omega, by show 286816 + 48 * (513 - (n + 1)) + 12 + 0 ≤ 7293000; omega⟩) hS (fun q _ h => hFc q h) hFc (fun r728 u t H1 locs ht hvm h hB hz1 hk1 hS => ?_)
        obtain ⟨mcd_728, mR_728⟩ := u
        obtain ⟨hP1, hK1, hD1⟩ := hB
        rw [ht] at hP1
        obtain ⟨hP, hD⟩ := va_join (wr := [(a0, .inr (0, [.ref aR, .ref aM])), (aR, .inl (cA, 32, .inl R_704)), (aM, .inr (1, [.ref aW, .int us, .ref aP, .ref aS, .int sc, .int li, .ref aC, .int rn, .ref aO, .int rd, .int st_704])), (aW, .inl (cA, nW, .inl f)), (aP, .inl (cA, nE, .inl P)), (aS, .inl (cA, nE, .inl S)), (aC, .inl (cA, nE, .inl rc)), (aO, .inl (cA, nE, .inl ro)), (aL, .inl (cL, 1, .inr (.inl ot_704)))]) (w1 := RSw cI cZ b0 bR bI bC bY bZ bF bL bN bX bT mcd_728 mwd men mR_728 mI mC mY mZ mF mmd mhi mL mN mfr mX mT mct mtk) hP hD [8, 9, 10, 11, 12, 13, 14, 15, 16, 17, 18] [0, 1, 2, 3, 4, 5, 6, 7, 19] rfl rfl (by decide) (by decide) hk1 hFc hP1 hD1
        have hP := hP.sub (ws' := LMw cA a0 aR aM aW aP aS aC aO nW nE cI cZ b0 bR bI bC bY bZ bF bL bN bX bT cL aL R_704 f us P S sc li rc rn ro rd st_704 mcd_728 mwd men mR_728 mI mC mY mZ mF mmd mhi mL mN mfr mX mT mct mtk ot_704) [0, 1, 2, 3, 4, 5, 6, 7, 9, 10, 11, 12, 13, 14, 15, 16, 17, 18, 19, 8] rfl
        have hD := hD.sub (ws' := LMw cA a0 aR aM aW aP aS aC aO nW nE cI cZ b0 bR bI bC bY bZ bF bL bN bX bT cL aL R_704 f us P S sc li rc rn ro rd st_704 mcd_728 mwd men mR_728 mI mC mY mZ mF mmd mhi mL mN mfr mX mT mct mtk ot_704) [0, 1, 2, 3, 4, 5, 6, 7, 9, 10, 11, 12, 13, 14, 15, 16, 17, 18, 19, 8] (by decide) rfl
        generalize H1 = H at hP hS ⊢
        clear hPc hDc hKc hFc hP1 hD1 hK1 hk1
        try dsimp only at h
        refine lv_istore (lv' := [(6, .int r728), (5, .int r704), (0, .ref b), (1, .ref a0), (2, .ref b0), (3, .ref aL), (4, .int x4)]) hx hb d_L_law_731 hl (by decide) rfl (fun ls hl => ?_)
        refine lv_aload_n hx hb d_L_law_733 rfl (lv_at hl 4 rfl) ?_
        have hPc := hP.sub (ws' := RSw cI cZ b0 bR bI bC bY bZ bF bL bN bX bT mcd_728 mwd men mR_728 mI mC mY mZ mF mmd mhi mL mN mfr mX mT mct mtk) [8, 9, 10, 11, 12, 13, 14, 15, 16, 17, 18] rfl
        have hKc := hK.sub (tys' := [(cI, .int), (cZ, .boolean)]) [1, 2] rfl
        refine rq_calli (W.runV (As := []) (rest := []) ⟨hx, hb, hml, hown, hw⟩ (mR_thrown l dC dI cI cZ b0 bR bI bC bY bZ bF bL bN bX bT mcd_728 mwd men mR_728 mI mC mY mZ mF mmd mhi mL mN mfr mX mT mct mtk _ h) (cwV 0 hw g_L_103 rfl rfl rfl (by decide +kernel) ⟨Nat.le_of_ble_eq_true rfl, Nat.le_of_ble_eq_true rfl⟩) (ro_PV (ci := 2) (q0 := 0) hKc hPc rfl rfl) rfl rfl hl.1 rfl (lv_room (Nat.le_of_ble_eq_true rfl)) d_L_law_734 ⟨by show 20 + 8 * (513 - (n + 1)) + 2 + 0 + 0 ≤ 601024; omega, by show 286816 + 48 * (513 - (n + 1)) + 12 + 0 + 0 ≤ 7293000; omega⟩) (fun r734 h => ?_)
        clear hPc hKc
        refine lv_iload hx hb d_L_law_737 (lv_at hl 1 rfl) ?_
        refine lv_icmp_eq (tgt := 744) hx hb d_L_law_739 (by decide) (fun c_739 => ?_) (fun c_739 => ?_)
        · have h := h.1 c_739
          refine lv_iload hx hb d_L_law_744 (lv_at hl 1 rfl) ?_
          refine lv_if_ne (tgt := 761) hx hb d_L_law_746 (by decide) (fun c_746 => ?_) (fun c_746 => ?_)
          · have h := h.2 c_746
            refine lv_goto (tgt := 1529) hx hb d_L_law_761 (by decide) ?_
            refine lv_iinc (v := x4 + (5 : Int32)) (lv' := [(4, .int (x4 + (5 : Int32))), (6, .int r728), (5, .int r704), (0, .ref b), (1, .ref a0), (2, .ref b0), (3, .ref aL)]) hx hb d_L_law_1529 hl (k := 6) rfl rfl (by decide) rfl (fun ls hl => ?_)
            refine lv_goto (tgt := 43) hx hb d_L_law_1532 (by decide) ?_
            refine W.widen (k := 20 + 8 * (513 - n)) (n := 286816 + 48 * (513 - n)) (by omega) (by omega) ?_
            exact ih (by omega) (x4 + (5 : Int32)) R_704 f us P S sc li rc rn ro rd st_704 mcd_728 mwd men mR_728 mI mC mY mZ mF mmd mhi mL mN mfr mX mT mct mtk ot_704 H locs ls hP hD hS (lv_sub hl [3, 4, 5, 6, 0] rfl) h
          · have h := h.1 c_746
            refine lv_aload_n hx hb d_L_law_749 rfl (lv_at hl 5 rfl) ?_
            refine lv_iconst (v := (0 : Int32)) hx hb d_L_law_750 (by decide) ?_
            refine va_lald hx hb hK hP 19 3 rfl rfl h.1 d_L_law_751 ?_
            have h := h.2
            refine lv_iload hx hb d_L_law_752 (lv_at hl 0 rfl) ?_
            refine lv_i2l (v := r728.toInt64) hx hb d_L_law_754 rfl ?_
            refine W.lcmp hx hb d_L_law_755 ?_
            refine lv_if_eq (tgt := 761) hx hb d_L_law_756 (by decide) (fun c_756 => ?_) (fun c_756 => ?_)
            · have h := h.1 c_756
              refine lv_goto (tgt := 1529) hx hb d_L_law_761 (by decide) ?_
              refine lv_iinc (v := x4 + (5 : Int32)) (lv' := [(4, .int (x4 + (5 : Int32))), (6, .int r728), (5, .int r704), (0, .ref b), (1, .ref a0), (2, .ref b0), (3, .ref aL)]) hx hb d_L_law_1529 hl (k := 6) rfl rfl (by decide) rfl (fun ls hl => ?_)
              refine lv_goto (tgt := 43) hx hb d_L_law_1532 (by decide) ?_
              refine W.widen (k := 20 + 8 * (513 - n)) (n := 286816 + 48 * (513 - n)) (by omega) (by omega) ?_
              exact ih (by omega) (x4 + (5 : Int32)) R_704 f us P S sc li rc rn ro rd st_704 mcd_728 mwd men mR_728 mI mC mY mZ mF mmd mhi mL mN mfr mX mT mct mtk ot_704 H locs ls hP hD hS (lv_sub hl [3, 4, 5, 6, 0] rfl) h
            · have h := h.2 c_756
              refine lv_iconst (v := (0 : Int32)) hx hb d_L_law_759 (by decide) ?_
              exact h.elim
        · have h := h.2 c_739
          refine lv_iconst (v := (0 : Int32)) hx hb d_L_law_742 (by decide) ?_
          exact h.elim
      · refine lv_tableIn (tgt := 764) hx hb d_L_law_59 (by decide) (by decide) rfl (by decide) ?_
        have h := h.2.2.2.2.2.2.2.2.2.1 rfl
        refine lv_aload_n hx hb d_L_law_764 rfl (lv_at hl 1 rfl) ?_
        refine lv_aload_n hx hb d_L_law_765 rfl (lv_at hl 0 rfl) ?_
        refine lv_iload hx hb d_L_law_766 (lv_at hl 4 rfl) ?_
        refine lv_iconst (v := (1 : Int32)) hx hb d_L_law_768 (by decide) ?_
        refine lv_iadd hx hb d_L_law_769 ?_
        refine va_sld hx hb hX hbl hbA hS h.1 d_L_law_770 ?_
        have h := h.2
        refine lv_aload_n hx hb d_L_law_771 rfl (lv_at hl 0 rfl) ?_
        refine lv_iload hx hb d_L_law_772 (lv_at hl 4 rfl) ?_
        refine lv_iconst (v := (2 : Int32)) hx hb d_L_law_774 (by decide) ?_
        refine lv_iadd hx hb d_L_law_775 ?_
        refine va_sld hx hb hX hbl hbA hS h.1 d_L_law_776 ?_
        have h := h.2
        have hPc := hP.sub (ws' := LHw cA a0 aR aM aW aP aS aC aO nW nE cL aL R f us P S sc li rc rn ro rd st ot) [0, 1, 2, 3, 4, 5, 6, 7, 19] rfl
        have hKc := hK.sub (tys' := [(cA, .int), (cL, .long)]) [0, 3] rfl
        have hDc := hD.sub (ws' := LHw cA a0 aR aM aW aP aS aC aO nW nE cL aL R f us P S sc li rc rn ro rd st ot) [0, 1, 2, 3, 4, 5, 6, 7, 19] (by decide) rfl
        have hFc := va_free (wc := LHw cA a0 aR aM aW aP aS aC aO nW nE cL aL R f us P S sc li rc rn ro rd st ot) hD hS hA [0, 1, 2, 3, 4, 5, 6, 7, 19] rfl
        refine va_calli (vx_runSW (As := [.ref a0, .int (xs (x4 + (1 : Int32)).toNatClampNeg), .int (xs (x4 + (2 : Int32)).toNatClampNeg)]) (rest := []) ⟨hx, hb, hml, hown, hw⟩ (mL_classOf l hlT sa dC dI cA a0 aR aM aW aP aS aC aO nW nE cL aL H.size R f us P S sc li rc rn ro rd st ot (xs (x4 + (1 : Int32)).toNatClampNeg) (xs (x4 + (2 : Int32)).toNatClampNeg) _ h) (vx_cwSW 3 hw g_L_137 rfl rfl rfl (by decide +kernel) ⟨Nat.le_of_ble_eq_true rfl, Nat.le_of_ble_eq_true rfl⟩) (xh_PS hKc hPc hDc (xt_at hXT hS) hFc hNC) rfl rfl hl.1 rfl (lv_room (Nat.le_of_ble_eq_true rfl)) d_L_law_777 ⟨by show 20 + 8 * (513 - (n + 1)) + 3 ≤ 601024; omega, by show 286816 + 48 * (513 - (n + 1)) + 18 ≤ 7293000; omega⟩) hS (fun q _ h => hFc q h) hFc (fun r777 u t H1 locs ht hvm h hB hz1 hk1 hS => ?_)
        obtain ⟨R_777, st_777⟩ := u
        obtain ⟨hP1, hK1, hD1⟩ := hB
        rw [ht] at hP1
        obtain ⟨hP, hD⟩ := va_join (wr := [(b0, .inr (2, [.int mcd, .int mwd, .int men, .ref bR, .ref bI, .ref bC, .ref bY, .ref bZ, .ref bF, .int mmd, .int mhi, .ref bL, .ref bN, .int mfr, .ref bX, .ref bT, .int mct, .int mtk])), (bR, .inl (cI, 32, .inl mR)), (bI, .inl (cI, 8192, .inl mI)), (bC, .inl (cI, 8192, .inl mC)), (bY, .inl (cZ, 8192, .inl mY)), (bZ, .inl (cI, 8192, .inl mZ)), (bF, .inl (cI, 8192, .inl mF)), (bL, .inl (cI, 65536, .inl mL)), (bN, .inl (cI, 65536, .inl mN)), (bX, .inl (cZ, 8192, .inl mX)), (bT, .inl (cI, 8192, .inl mT))]) (w1 := LHw cA a0 aR aM aW aP aS aC aO nW nE cL aL R_777 f us P S sc li rc rn ro rd st_777 ot) hP hD [0, 1, 2, 3, 4, 5, 6, 7, 19] [8, 9, 10, 11, 12, 13, 14, 15, 16, 17, 18] rfl rfl (by decide) (by decide) hk1 hFc hP1 hD1
        have hP := hP.sub (ws' := LMw cA a0 aR aM aW aP aS aC aO nW nE cI cZ b0 bR bI bC bY bZ bF bL bN bX bT cL aL R_777 f us P S sc li rc rn ro rd st_777 mcd mwd men mR mI mC mY mZ mF mmd mhi mL mN mfr mX mT mct mtk ot) [11, 12, 13, 14, 15, 16, 17, 18, 0, 1, 2, 3, 4, 5, 6, 7, 8, 9, 10, 19] rfl
        have hD := hD.sub (ws' := LMw cA a0 aR aM aW aP aS aC aO nW nE cI cZ b0 bR bI bC bY bZ bF bL bN bX bT cL aL R_777 f us P S sc li rc rn ro rd st_777 mcd mwd men mR mI mC mY mZ mF mmd mhi mL mN mfr mX mT mct mtk ot) [11, 12, 13, 14, 15, 16, 17, 18, 0, 1, 2, 3, 4, 5, 6, 7, 8, 9, 10, 19] (by decide) rfl
        generalize H1 = H at hP hS ⊢
        clear hPc hDc hKc hFc hP1 hD1 hK1 hk1
        try dsimp only at h
        refine lv_istore (lv' := [(5, .int r777), (0, .ref b), (1, .ref a0), (2, .ref b0), (3, .ref aL), (4, .int x4)]) hx hb d_L_law_780 hl (by decide) rfl (fun ls hl => ?_)
        refine lv_aload_n hx hb d_L_law_782 rfl (lv_at hl 3 rfl) ?_
        refine lv_aload_n hx hb d_L_law_783 rfl (lv_at hl 1 rfl) ?_
        refine lv_iload hx hb d_L_law_784 (lv_at hl 5 rfl) ?_
        refine lv_iconst (v := (1 : Int32)) hx hb d_L_law_786 (by decide) ?_
        refine lv_iadd hx hb d_L_law_787 ?_
        refine va_sld hx hb hX hbl hbA hS h.1 d_L_law_788 ?_
        have h := h.2
        refine lv_aload_n hx hb d_L_law_789 rfl (lv_at hl 1 rfl) ?_
        refine lv_iload hx hb d_L_law_790 (lv_at hl 5 rfl) ?_
        refine lv_iconst (v := (2 : Int32)) hx hb d_L_law_792 (by decide) ?_
        refine lv_iadd hx hb d_L_law_793 ?_
        refine va_sld hx hb hX hbl hbA hS h.1 d_L_law_794 ?_
        have h := h.2
        have hPc := hP.sub (ws' := RSw cI cZ b0 bR bI bC bY bZ bF bL bN bX bT mcd mwd men mR mI mC mY mZ mF mmd mhi mL mN mfr mX mT mct mtk) [8, 9, 10, 11, 12, 13, 14, 15, 16, 17, 18] rfl
        have hKc := hK.sub (tys' := [(cI, .int), (cZ, .boolean)]) [1, 2] rfl
        have hDc := hD.sub (ws' := RSw cI cZ b0 bR bI bC bY bZ bF bL bN bX bT mcd mwd men mR mI mC mY mZ mF mmd mhi mL mN mfr mX mT mct mtk) [8, 9, 10, 11, 12, 13, 14, 15, 16, 17, 18] (by decide) rfl
        have hFc := va_free (wc := RSw cI cZ b0 bR bI bC bY bZ bF bL bN bX bT mcd mwd men mR mI mC mY mZ mF mmd mhi mL mN mfr mX mT mct mtk) hD hS hA [8, 9, 10, 11, 12, 13, 14, 15, 16, 17, 18] rfl
        refine va_callv (va_runV (As := [.int (xs (x4 + (1 : Int32)).toNatClampNeg), .int (xs (x4 + (2 : Int32)).toNatClampNeg)]) (rest := []) ⟨hx, hb, hml, hown, hw⟩ (mR_classOf l dC dI cI cZ b0 bR bI bC bY bZ bF bL bN bX bT H.size mcd mwd men mR mI mC mY mZ mF mmd mhi mL mN mfr mX mT mct mtk (xs (x4 + (1 : Int32)).toNatClampNeg) (xs (x4 + (2 : Int32)).toNatClampNeg) _ h) (cwV 2 hw g_L_139 rfl rfl rfl (by decide +kernel) ⟨Nat.le_of_ble_eq_true rfl, Nat.le_of_ble_eq_true rfl⟩) (rw_PV (ci := 2) (q0 := 0) hKc hPc hDc rfl rfl) rfl rfl hl.1 rfl (lv_room (Nat.le_of_ble_eq_true rfl)) d_L_law_795 ⟨by show 20 + 8 * (513 - (n + 1)) + 3 + 0 ≤ 601024; omega, by show 286816 + 48 * (513 - (n + 1)) + 18 + 0 ≤ 7293000; omega⟩) hS (fun q _ h => hFc q h) hFc (fun u t H1 locs ht hvm h hB hz1 hk1 hS => ?_)
        obtain ⟨mcd_795, mR_795⟩ := u
        obtain ⟨hP1, hK1, hD1⟩ := hB
        rw [ht] at hP1
        obtain ⟨hP, hD⟩ := va_join (wr := [(a0, .inr (0, [.ref aR, .ref aM])), (aR, .inl (cA, 32, .inl R_777)), (aM, .inr (1, [.ref aW, .int us, .ref aP, .ref aS, .int sc, .int li, .ref aC, .int rn, .ref aO, .int rd, .int st_777])), (aW, .inl (cA, nW, .inl f)), (aP, .inl (cA, nE, .inl P)), (aS, .inl (cA, nE, .inl S)), (aC, .inl (cA, nE, .inl rc)), (aO, .inl (cA, nE, .inl ro)), (aL, .inl (cL, 1, .inr (.inl ot)))]) (w1 := RSw cI cZ b0 bR bI bC bY bZ bF bL bN bX bT mcd_795 mwd men mR_795 mI mC mY mZ mF mmd mhi mL mN mfr mX mT mct mtk) hP hD [8, 9, 10, 11, 12, 13, 14, 15, 16, 17, 18] [0, 1, 2, 3, 4, 5, 6, 7, 19] rfl rfl (by decide) (by decide) hk1 hFc hP1 hD1
        have hP := hP.sub (ws' := LMw cA a0 aR aM aW aP aS aC aO nW nE cI cZ b0 bR bI bC bY bZ bF bL bN bX bT cL aL R_777 f us P S sc li rc rn ro rd st_777 mcd_795 mwd men mR_795 mI mC mY mZ mF mmd mhi mL mN mfr mX mT mct mtk ot) [0, 1, 2, 3, 4, 5, 6, 7, 9, 10, 11, 12, 13, 14, 15, 16, 17, 18, 19, 8] rfl
        have hD := hD.sub (ws' := LMw cA a0 aR aM aW aP aS aC aO nW nE cI cZ b0 bR bI bC bY bZ bF bL bN bX bT cL aL R_777 f us P S sc li rc rn ro rd st_777 mcd_795 mwd men mR_795 mI mC mY mZ mF mmd mhi mL mN mfr mX mT mct mtk ot) [0, 1, 2, 3, 4, 5, 6, 7, 9, 10, 11, 12, 13, 14, 15, 16, 17, 18, 19, 8] (by decide) rfl
        generalize H1 = H at hP hS ⊢
        clear hPc hDc hKc hFc hP1 hD1 hK1 hk1
        try dsimp only at h
        refine lv_aload_n hx hb d_L_law_798 rfl (lv_at hl 3 rfl) ?_
        have hPc := hP.sub (ws' := RSw cI cZ b0 bR bI bC bY bZ bF bL bN bX bT mcd_795 mwd men mR_795 mI mC mY mZ mF mmd mhi mL mN mfr mX mT mct mtk) [8, 9, 10, 11, 12, 13, 14, 15, 16, 17, 18] rfl
        have hKc := hK.sub (tys' := [(cI, .int), (cZ, .boolean)]) [1, 2] rfl
        refine rq_calli (W.runV (As := []) (rest := []) ⟨hx, hb, hml, hown, hw⟩ (mR_thrown l dC dI cI cZ b0 bR bI bC bY bZ bF bL bN bX bT mcd_795 mwd men mR_795 mI mC mY mZ mF mmd mhi mL mN mfr mX mT mct mtk _ h) (cwV 0 hw g_L_103 rfl rfl rfl (by decide +kernel) ⟨Nat.le_of_ble_eq_true rfl, Nat.le_of_ble_eq_true rfl⟩) (ro_PV (ci := 2) (q0 := 0) hKc hPc rfl rfl) rfl rfl hl.1 rfl (lv_room (Nat.le_of_ble_eq_true rfl)) d_L_law_799 ⟨by show 20 + 8 * (513 - (n + 1)) + 3 + 0 + 0 ≤ 601024; omega, by show 286816 + 48 * (513 - (n + 1)) + 18 + 0 + 0 ≤ 7293000; omega⟩) (fun r799 h => ?_)
        clear hPc hKc
        refine lv_iload hx hb d_L_law_802 (lv_at hl 0 rfl) ?_
        refine lv_icmp_eq (tgt := 809) hx hb d_L_law_804 (by decide) (fun c_804 => ?_) (fun c_804 => ?_)
        · have h := h.1 c_804
          refine lv_goto (tgt := 1529) hx hb d_L_law_809 (by decide) ?_
          refine lv_iinc (v := x4 + (5 : Int32)) (lv' := [(4, .int (x4 + (5 : Int32))), (5, .int r777), (0, .ref b), (1, .ref a0), (2, .ref b0), (3, .ref aL)]) hx hb d_L_law_1529 hl (k := 5) rfl rfl (by decide) rfl (fun ls hl => ?_)
          refine lv_goto (tgt := 43) hx hb d_L_law_1532 (by decide) ?_
          refine W.widen (k := 20 + 8 * (513 - n)) (n := 286816 + 48 * (513 - n)) (by omega) (by omega) ?_
          exact ih (by omega) (x4 + (5 : Int32)) R_777 f us P S sc li rc rn ro rd st_777 mcd_795 mwd men mR_795 mI mC mY mZ mF mmd mhi mL mN mfr mX mT mct mtk ot H locs ls hP hD hS (lv_sub hl [2, 3, 4, 5, 0] rfl) h
        · have h := h.2 c_804
          refine lv_iconst (v := (0 : Int32)) hx hb d_L_law_807 (by decide) ?_
          exact h.elim
      · refine lv_tableIn (tgt := 812) hx hb d_L_law_59 (by decide) (by decide) rfl (by decide) ?_
        have h := h.2.2.2.2.2.2.2.2.2.2.1 rfl
        refine lv_aload_n hx hb d_L_law_812 rfl (lv_at hl 1 rfl) ?_
        refine lv_aload_n hx hb d_L_law_813 rfl (lv_at hl 0 rfl) ?_
        refine lv_iload hx hb d_L_law_814 (lv_at hl 4 rfl) ?_
        refine lv_iconst (v := (1 : Int32)) hx hb d_L_law_816 (by decide) ?_
        refine lv_iadd hx hb d_L_law_817 ?_
        refine va_sld hx hb hX hbl hbA hS h.1 d_L_law_818 ?_
        have h := h.2
        refine lv_aload_n hx hb d_L_law_819 rfl (lv_at hl 0 rfl) ?_
        refine lv_iload hx hb d_L_law_820 (lv_at hl 4 rfl) ?_
        refine lv_iconst (v := (2 : Int32)) hx hb d_L_law_822 (by decide) ?_
        refine lv_iadd hx hb d_L_law_823 ?_
        refine va_sld hx hb hX hbl hbA hS h.1 d_L_law_824 ?_
        have h := h.2
        have hPc := hP.sub (ws' := LHw cA a0 aR aM aW aP aS aC aO nW nE cL aL R f us P S sc li rc rn ro rd st ot) [0, 1, 2, 3, 4, 5, 6, 7, 19] rfl
        have hKc := hK.sub (tys' := [(cA, .int), (cL, .long)]) [0, 3] rfl
        have hDc := hD.sub (ws' := LHw cA a0 aR aM aW aP aS aC aO nW nE cL aL R f us P S sc li rc rn ro rd st ot) [0, 1, 2, 3, 4, 5, 6, 7, 19] (by decide) rfl
        have hFc := va_free (wc := LHw cA a0 aR aM aW aP aS aC aO nW nE cL aL R f us P S sc li rc rn ro rd st ot) hD hS hA [0, 1, 2, 3, 4, 5, 6, 7, 19] rfl
        refine va_calli (vx_runSW (As := [.ref a0, .int (xs (x4 + (1 : Int32)).toNatClampNeg), .int (xs (x4 + (2 : Int32)).toNatClampNeg)]) (rest := []) ⟨hx, hb, hml, hown, hw⟩ (mL_setClass l hlT sa dC dI cA a0 aR aM aW aP aS aC aO nW nE cL aL H.size R f us P S sc li rc rn ro rd st ot (xs (x4 + (1 : Int32)).toNatClampNeg) (xs (x4 + (2 : Int32)).toNatClampNeg) _ h) (vx_cwSW 3 hw g_L_140 rfl rfl rfl (by decide +kernel) ⟨Nat.le_of_ble_eq_true rfl, Nat.le_of_ble_eq_true rfl⟩) (xh_PS hKc hPc hDc (xt_at hXT hS) hFc hNC) rfl rfl hl.1 rfl (lv_room (Nat.le_of_ble_eq_true rfl)) d_L_law_825 ⟨by show 20 + 8 * (513 - (n + 1)) + 3 ≤ 601024; omega, by show 286816 + 48 * (513 - (n + 1)) + 18 ≤ 7293000; omega⟩) hS (fun q _ h => hFc q h) hFc (fun r825 u t H1 locs ht hvm h hB hz1 hk1 hS => ?_)
        obtain ⟨f_825, st_825⟩ := u
        obtain ⟨hP1, hK1, hD1⟩ := hB
        rw [ht] at hP1
        obtain ⟨hP, hD⟩ := va_join (wr := [(b0, .inr (2, [.int mcd, .int mwd, .int men, .ref bR, .ref bI, .ref bC, .ref bY, .ref bZ, .ref bF, .int mmd, .int mhi, .ref bL, .ref bN, .int mfr, .ref bX, .ref bT, .int mct, .int mtk])), (bR, .inl (cI, 32, .inl mR)), (bI, .inl (cI, 8192, .inl mI)), (bC, .inl (cI, 8192, .inl mC)), (bY, .inl (cZ, 8192, .inl mY)), (bZ, .inl (cI, 8192, .inl mZ)), (bF, .inl (cI, 8192, .inl mF)), (bL, .inl (cI, 65536, .inl mL)), (bN, .inl (cI, 65536, .inl mN)), (bX, .inl (cZ, 8192, .inl mX)), (bT, .inl (cI, 8192, .inl mT))]) (w1 := LHw cA a0 aR aM aW aP aS aC aO nW nE cL aL R f_825 us P S sc li rc rn ro rd st_825 ot) hP hD [0, 1, 2, 3, 4, 5, 6, 7, 19] [8, 9, 10, 11, 12, 13, 14, 15, 16, 17, 18] rfl rfl (by decide) (by decide) hk1 hFc hP1 hD1
        have hP := hP.sub (ws' := LMw cA a0 aR aM aW aP aS aC aO nW nE cI cZ b0 bR bI bC bY bZ bF bL bN bX bT cL aL R f_825 us P S sc li rc rn ro rd st_825 mcd mwd men mR mI mC mY mZ mF mmd mhi mL mN mfr mX mT mct mtk ot) [11, 12, 13, 14, 15, 16, 17, 18, 0, 1, 2, 3, 4, 5, 6, 7, 8, 9, 10, 19] rfl
        have hD := hD.sub (ws' := LMw cA a0 aR aM aW aP aS aC aO nW nE cI cZ b0 bR bI bC bY bZ bF bL bN bX bT cL aL R f_825 us P S sc li rc rn ro rd st_825 mcd mwd men mR mI mC mY mZ mF mmd mhi mL mN mfr mX mT mct mtk ot) [11, 12, 13, 14, 15, 16, 17, 18, 0, 1, 2, 3, 4, 5, 6, 7, 8, 9, 10, 19] (by decide) rfl
        generalize H1 = H at hP hS ⊢
        clear hPc hDc hKc hFc hP1 hD1 hK1 hk1
        try dsimp only at h
        refine lv_istore (lv' := [(5, .int r825), (0, .ref b), (1, .ref a0), (2, .ref b0), (3, .ref aL), (4, .int x4)]) hx hb d_L_law_828 hl (by decide) rfl (fun ls hl => ?_)
        refine lv_aload_n hx hb d_L_law_830 rfl (lv_at hl 3 rfl) ?_
        refine lv_aload_n hx hb d_L_law_831 rfl (lv_at hl 1 rfl) ?_
        refine lv_iload hx hb d_L_law_832 (lv_at hl 5 rfl) ?_
        refine lv_iconst (v := (1 : Int32)) hx hb d_L_law_834 (by decide) ?_
        refine lv_iadd hx hb d_L_law_835 ?_
        refine va_sld hx hb hX hbl hbA hS h.1 d_L_law_836 ?_
        have h := h.2
        refine lv_aload_n hx hb d_L_law_837 rfl (lv_at hl 1 rfl) ?_
        refine lv_iload hx hb d_L_law_838 (lv_at hl 5 rfl) ?_
        refine lv_iconst (v := (2 : Int32)) hx hb d_L_law_840 (by decide) ?_
        refine lv_iadd hx hb d_L_law_841 ?_
        refine va_sld hx hb hX hbl hbA hS h.1 d_L_law_842 ?_
        have h := h.2
        have hPc := hP.sub (ws' := RSw cI cZ b0 bR bI bC bY bZ bF bL bN bX bT mcd mwd men mR mI mC mY mZ mF mmd mhi mL mN mfr mX mT mct mtk) [8, 9, 10, 11, 12, 13, 14, 15, 16, 17, 18] rfl
        have hKc := hK.sub (tys' := [(cI, .int), (cZ, .boolean)]) [1, 2] rfl
        have hDc := hD.sub (ws' := RSw cI cZ b0 bR bI bC bY bZ bF bL bN bX bT mcd mwd men mR mI mC mY mZ mF mmd mhi mL mN mfr mX mT mct mtk) [8, 9, 10, 11, 12, 13, 14, 15, 16, 17, 18] (by decide) rfl
        have hFc := va_free (wc := RSw cI cZ b0 bR bI bC bY bZ bF bL bN bX bT mcd mwd men mR mI mC mY mZ mF mmd mhi mL mN mfr mX mT mct mtk) hD hS hA [8, 9, 10, 11, 12, 13, 14, 15, 16, 17, 18] rfl
        refine va_callv (va_runV (As := [.int (xs (x4 + (1 : Int32)).toNatClampNeg), .int (xs (x4 + (2 : Int32)).toNatClampNeg)]) (rest := []) ⟨hx, hb, hml, hown, hw⟩ (mR_setClass l dC dI cI cZ b0 bR bI bC bY bZ bF bL bN bX bT H.size mcd mwd men mR mI mC mY mZ mF mmd mhi mL mN mfr mX mT mct mtk (xs (x4 + (1 : Int32)).toNatClampNeg) (xs (x4 + (2 : Int32)).toNatClampNeg) _ h) (cwV 2 hw g_L_142 rfl rfl rfl (by decide +kernel) ⟨Nat.le_of_ble_eq_true rfl, Nat.le_of_ble_eq_true rfl⟩) (rw_PV (ci := 2) (q0 := 0) hKc hPc hDc rfl rfl) rfl rfl hl.1 rfl (lv_room (Nat.le_of_ble_eq_true rfl)) d_L_law_843 ⟨by show 20 + 8 * (513 - (n + 1)) + 3 + 0 ≤ 601024; omega, by show 286816 + 48 * (513 - (n + 1)) + 18 + 0 ≤ 7293000; omega⟩) hS (fun q _ h => hFc q h) hFc (fun u t H1 locs ht hvm h hB hz1 hk1 hS => ?_)
        obtain ⟨mcd_843, mC_843⟩ := u
        obtain ⟨hP1, hK1, hD1⟩ := hB
        rw [ht] at hP1
        obtain ⟨hP, hD⟩ := va_join (wr := [(a0, .inr (0, [.ref aR, .ref aM])), (aR, .inl (cA, 32, .inl R)), (aM, .inr (1, [.ref aW, .int us, .ref aP, .ref aS, .int sc, .int li, .ref aC, .int rn, .ref aO, .int rd, .int st_825])), (aW, .inl (cA, nW, .inl f_825)), (aP, .inl (cA, nE, .inl P)), (aS, .inl (cA, nE, .inl S)), (aC, .inl (cA, nE, .inl rc)), (aO, .inl (cA, nE, .inl ro)), (aL, .inl (cL, 1, .inr (.inl ot)))]) (w1 := RSw cI cZ b0 bR bI bC bY bZ bF bL bN bX bT mcd_843 mwd men mR mI mC_843 mY mZ mF mmd mhi mL mN mfr mX mT mct mtk) hP hD [8, 9, 10, 11, 12, 13, 14, 15, 16, 17, 18] [0, 1, 2, 3, 4, 5, 6, 7, 19] rfl rfl (by decide) (by decide) hk1 hFc hP1 hD1
        have hP := hP.sub (ws' := LMw cA a0 aR aM aW aP aS aC aO nW nE cI cZ b0 bR bI bC bY bZ bF bL bN bX bT cL aL R f_825 us P S sc li rc rn ro rd st_825 mcd_843 mwd men mR mI mC_843 mY mZ mF mmd mhi mL mN mfr mX mT mct mtk ot) [0, 1, 2, 3, 4, 5, 6, 7, 9, 10, 11, 12, 13, 14, 15, 16, 17, 18, 19, 8] rfl
        have hD := hD.sub (ws' := LMw cA a0 aR aM aW aP aS aC aO nW nE cI cZ b0 bR bI bC bY bZ bF bL bN bX bT cL aL R f_825 us P S sc li rc rn ro rd st_825 mcd_843 mwd men mR mI mC_843 mY mZ mF mmd mhi mL mN mfr mX mT mct mtk ot) [0, 1, 2, 3, 4, 5, 6, 7, 9, 10, 11, 12, 13, 14, 15, 16, 17, 18, 19, 8] (by decide) rfl
        generalize H1 = H at hP hS ⊢
        clear hPc hDc hKc hFc hP1 hD1 hK1 hk1
        try dsimp only at h
        refine lv_aload_n hx hb d_L_law_846 rfl (lv_at hl 3 rfl) ?_
        have hPc := hP.sub (ws' := RSw cI cZ b0 bR bI bC bY bZ bF bL bN bX bT mcd_843 mwd men mR mI mC_843 mY mZ mF mmd mhi mL mN mfr mX mT mct mtk) [8, 9, 10, 11, 12, 13, 14, 15, 16, 17, 18] rfl
        have hKc := hK.sub (tys' := [(cI, .int), (cZ, .boolean)]) [1, 2] rfl
        refine rq_calli (W.runV (As := []) (rest := []) ⟨hx, hb, hml, hown, hw⟩ (mR_thrown l dC dI cI cZ b0 bR bI bC bY bZ bF bL bN bX bT mcd_843 mwd men mR mI mC_843 mY mZ mF mmd mhi mL mN mfr mX mT mct mtk _ h) (cwV 0 hw g_L_103 rfl rfl rfl (by decide +kernel) ⟨Nat.le_of_ble_eq_true rfl, Nat.le_of_ble_eq_true rfl⟩) (ro_PV (ci := 2) (q0 := 0) hKc hPc rfl rfl) rfl rfl hl.1 rfl (lv_room (Nat.le_of_ble_eq_true rfl)) d_L_law_847 ⟨by show 20 + 8 * (513 - (n + 1)) + 3 + 0 + 0 ≤ 601024; omega, by show 286816 + 48 * (513 - (n + 1)) + 18 + 0 + 0 ≤ 7293000; omega⟩) (fun r847 h => ?_)
        clear hPc hKc
        refine lv_iload hx hb d_L_law_850 (lv_at hl 0 rfl) ?_
        refine lv_icmp_eq (tgt := 857) hx hb d_L_law_852 (by decide) (fun c_852 => ?_) (fun c_852 => ?_)
        · have h := h.1 c_852
          refine lv_goto (tgt := 1529) hx hb d_L_law_857 (by decide) ?_
          refine lv_iinc (v := x4 + (5 : Int32)) (lv' := [(4, .int (x4 + (5 : Int32))), (5, .int r825), (0, .ref b), (1, .ref a0), (2, .ref b0), (3, .ref aL)]) hx hb d_L_law_1529 hl (k := 5) rfl rfl (by decide) rfl (fun ls hl => ?_)
          refine lv_goto (tgt := 43) hx hb d_L_law_1532 (by decide) ?_
          refine W.widen (k := 20 + 8 * (513 - n)) (n := 286816 + 48 * (513 - n)) (by omega) (by omega) ?_
          exact ih (by omega) (x4 + (5 : Int32)) R f_825 us P S sc li rc rn ro rd st_825 mcd_843 mwd men mR mI mC_843 mY mZ mF mmd mhi mL mN mfr mX mT mct mtk ot H locs ls hP hD hS (lv_sub hl [2, 3, 4, 5, 0] rfl) h
        · have h := h.2 c_852
          refine lv_iconst (v := (0 : Int32)) hx hb d_L_law_855 (by decide) ?_
          exact h.elim
      · refine lv_tableIn (tgt := 860) hx hb d_L_law_59 (by decide) (by decide) rfl (by decide) ?_
        have h := h.2.2.2.2.2.2.2.2.2.2.2.1 rfl
        refine lv_aload_n hx hb d_L_law_860 rfl (lv_at hl 1 rfl) ?_
        refine lv_aload_n hx hb d_L_law_861 rfl (lv_at hl 0 rfl) ?_
        refine lv_iload hx hb d_L_law_862 (lv_at hl 4 rfl) ?_
        refine lv_iconst (v := (1 : Int32)) hx hb d_L_law_864 (by decide) ?_
        refine lv_iadd hx hb d_L_law_865 ?_
        refine va_sld hx hb hX hbl hbA hS h.1 d_L_law_866 ?_
        have h := h.2
        refine lv_aload_n hx hb d_L_law_867 rfl (lv_at hl 0 rfl) ?_
        refine lv_iload hx hb d_L_law_868 (lv_at hl 4 rfl) ?_
        refine lv_iconst (v := (2 : Int32)) hx hb d_L_law_870 (by decide) ?_
        refine lv_iadd hx hb d_L_law_871 ?_
        refine va_sld hx hb hX hbl hbA hS h.1 d_L_law_872 ?_
        have h := h.2
        refine lv_aload_n hx hb d_L_law_873 rfl (lv_at hl 3 rfl) ?_
        have hPc := hP.sub (ws' := LHw cA a0 aR aM aW aP aS aC aO nW nE cL aL R f us P S sc li rc rn ro rd st ot) [0, 1, 2, 3, 4, 5, 6, 7, 19] rfl
        have hKc := hK.sub (tys' := [(cA, .int), (cL, .long)]) [0, 3] rfl
        have hDc := hD.sub (ws' := LHw cA a0 aR aM aW aP aS aC aO nW nE cL aL R f us P S sc li rc rn ro rd st ot) [0, 1, 2, 3, 4, 5, 6, 7, 19] (by decide) rfl
        have hFc := va_free (wc := LHw cA a0 aR aM aW aP aS aC aO nW nE cL aL R f us P S sc li rc rn ro rd st ot) hD hS hA [0, 1, 2, 3, 4, 5, 6, 7, 19] rfl
        refine va_calli (vx_runSW (As := [.ref a0, .int (xs (x4 + (1 : Int32)).toNatClampNeg), .int (xs (x4 + (2 : Int32)).toNatClampNeg), .ref aL]) (rest := []) ⟨hx, hb, hml, hown, hw⟩ (mL_byteAt l hlT sa dC dI cA a0 aR aM aW aP aS aC aO nW nE cL aL H.size R f us P S sc li rc rn ro rd st ot (xs (x4 + (1 : Int32)).toNatClampNeg) (xs (x4 + (2 : Int32)).toNatClampNeg) _ h) (vx_cwSW 4 hw g_L_143 rfl rfl rfl (by decide +kernel) ⟨Nat.le_of_ble_eq_true rfl, Nat.le_of_ble_eq_true rfl⟩) (xh_PS hKc hPc hDc (xt_at hXT hS) hFc hNC) rfl rfl hl.1 rfl (lv_room (Nat.le_of_ble_eq_true rfl)) d_L_law_874 ⟨by show 20 + 8 * (513 - (n + 1)) + 3 ≤ 601024; omega, by show 286816 + 48 * (513 - (n + 1)) + 18 ≤ 7293000; omega⟩) hS (fun q _ h => hFc q h) hFc (fun r874 u t H1 locs ht hvm h hB hz1 hk1 hS => ?_)
        obtain ⟨ot_874, rfl⟩ : ∃ z, z = u := ⟨_, rfl⟩
        obtain ⟨hP1, hK1, hD1⟩ := hB
        rw [ht] at hP1
        obtain ⟨hP, hD⟩ := va_join (wr := [(b0, .inr (2, [.int mcd, .int mwd, .int men, .ref bR, .ref bI, .ref bC, .ref bY, .ref bZ, .ref bF, .int mmd, .int mhi, .ref bL, .ref bN, .int mfr, .ref bX, .ref bT, .int mct, .int mtk])), (bR, .inl (cI, 32, .inl mR)), (bI, .inl (cI, 8192, .inl mI)), (bC, .inl (cI, 8192, .inl mC)), (bY, .inl (cZ, 8192, .inl mY)), (bZ, .inl (cI, 8192, .inl mZ)), (bF, .inl (cI, 8192, .inl mF)), (bL, .inl (cI, 65536, .inl mL)), (bN, .inl (cI, 65536, .inl mN)), (bX, .inl (cZ, 8192, .inl mX)), (bT, .inl (cI, 8192, .inl mT))]) (w1 := LHw cA a0 aR aM aW aP aS aC aO nW nE cL aL R f us P S sc li rc rn ro rd st ot_874) hP hD [0, 1, 2, 3, 4, 5, 6, 7, 19] [8, 9, 10, 11, 12, 13, 14, 15, 16, 17, 18] rfl rfl (by decide) (by decide) hk1 hFc hP1 hD1
        have hP := hP.sub (ws' := LMw cA a0 aR aM aW aP aS aC aO nW nE cI cZ b0 bR bI bC bY bZ bF bL bN bX bT cL aL R f us P S sc li rc rn ro rd st mcd mwd men mR mI mC mY mZ mF mmd mhi mL mN mfr mX mT mct mtk ot_874) [11, 12, 13, 14, 15, 16, 17, 18, 0, 1, 2, 3, 4, 5, 6, 7, 8, 9, 10, 19] rfl
        have hD := hD.sub (ws' := LMw cA a0 aR aM aW aP aS aC aO nW nE cI cZ b0 bR bI bC bY bZ bF bL bN bX bT cL aL R f us P S sc li rc rn ro rd st mcd mwd men mR mI mC mY mZ mF mmd mhi mL mN mfr mX mT mct mtk ot_874) [11, 12, 13, 14, 15, 16, 17, 18, 0, 1, 2, 3, 4, 5, 6, 7, 8, 9, 10, 19] (by decide) rfl
        generalize H1 = H at hP hS ⊢
        clear hPc hDc hKc hFc hP1 hD1 hK1 hk1
        try dsimp only at h
        refine lv_istore (lv' := [(5, .int r874), (0, .ref b), (1, .ref a0), (2, .ref b0), (3, .ref aL), (4, .int x4)]) hx hb d_L_law_877 hl (by decide) rfl (fun ls hl => ?_)
        refine lv_aload_n hx hb d_L_law_879 rfl (lv_at hl 3 rfl) ?_
        refine lv_aload_n hx hb d_L_law_880 rfl (lv_at hl 1 rfl) ?_
        refine lv_iload hx hb d_L_law_881 (lv_at hl 5 rfl) ?_
        refine lv_iconst (v := (1 : Int32)) hx hb d_L_law_883 (by decide) ?_
        refine lv_iadd hx hb d_L_law_884 ?_
        refine va_sld hx hb hX hbl hbA hS h.1 d_L_law_885 ?_
        have h := h.2
        refine lv_aload_n hx hb d_L_law_886 rfl (lv_at hl 1 rfl) ?_
        refine lv_iload hx hb d_L_law_887 (lv_at hl 5 rfl) ?_
        refine lv_iconst (v := (2 : Int32)) hx hb d_L_law_889 (by decide) ?_
        refine lv_iadd hx hb d_L_law_890 ?_
        refine va_sld hx hb hX hbl hbA hS h.1 d_L_law_891 ?_
        have h := h.2
        have hPc := hP.sub (ws' := RSw cI cZ b0 bR bI bC bY bZ bF bL bN bX bT mcd mwd men mR mI mC mY mZ mF mmd mhi mL mN mfr mX mT mct mtk) [8, 9, 10, 11, 12, 13, 14, 15, 16, 17, 18] rfl
        have hKc := hK.sub (tys' := [(cI, .int), (cZ, .boolean)]) [1, 2] rfl
        have hDc := hD.sub (ws' := RSw cI cZ b0 bR bI bC bY bZ bF bL bN bX bT mcd mwd men mR mI mC mY mZ mF mmd mhi mL mN mfr mX mT mct mtk) [8, 9, 10, 11, 12, 13, 14, 15, 16, 17, 18] (by decide) rfl
        have hFc := va_free (wc := RSw cI cZ b0 bR bI bC bY bZ bF bL bN bX bT mcd mwd men mR mI mC mY mZ mF mmd mhi mL mN mfr mX mT mct mtk) hD hS hA [8, 9, 10, 11, 12, 13, 14, 15, 16, 17, 18] rfl
        refine va_calli (va_runV (As := [.int (xs (x4 + (1 : Int32)).toNatClampNeg), .int (xs (x4 + (2 : Int32)).toNatClampNeg)]) (rest := []) ⟨hx, hb, hml, hown, hw⟩ (mR_byteAt l dC dI cI cZ b0 bR bI bC bY bZ bF bL bN bX bT H.size mcd mwd men mR mI mC mY mZ mF mmd mhi mL mN mfr mX mT mct mtk (xs (x4 + (1 : Int32)).toNatClampNeg) (xs (x4 + (2 : Int32)).toNatClampNeg) _ h) (cwV 2 hw g_L_145 rfl rfl rfl (by decide +kernel) ⟨Nat.le_of_ble_eq_true rfl, Nat.le_of_ble_eq_true rfl⟩) (rw_PV (ci := 2) (q0 := 0) hKc hPc hDc rfl rfl) rfl rfl hl.1 rfl (lv_room (Nat.le_of_ble_eq_true rfl)) d_L_law_892 ⟨by show 20 + 8 * (513 - (n + 1)) + 3 + 0 ≤ 601024; omega, by show 286816 + 48 * (513 - (n + 1)) + 18 + 0 ≤ 7293000; omega⟩) hS (fun q _ h => hFc q h) hFc (fun r892 u t H1 locs ht hvm h hB hz1 hk1 hS => ?_)
        obtain ⟨mcd_892, rfl⟩ : ∃ z, z = u := ⟨_, rfl⟩
        obtain ⟨hP1, hK1, hD1⟩ := hB
        rw [ht] at hP1
        obtain ⟨hP, hD⟩ := va_join (wr := [(a0, .inr (0, [.ref aR, .ref aM])), (aR, .inl (cA, 32, .inl R)), (aM, .inr (1, [.ref aW, .int us, .ref aP, .ref aS, .int sc, .int li, .ref aC, .int rn, .ref aO, .int rd, .int st])), (aW, .inl (cA, nW, .inl f)), (aP, .inl (cA, nE, .inl P)), (aS, .inl (cA, nE, .inl S)), (aC, .inl (cA, nE, .inl rc)), (aO, .inl (cA, nE, .inl ro)), (aL, .inl (cL, 1, .inr (.inl ot_874)))]) (w1 := RSw cI cZ b0 bR bI bC bY bZ bF bL bN bX bT mcd_892 mwd men mR mI mC mY mZ mF mmd mhi mL mN mfr mX mT mct mtk) hP hD [8, 9, 10, 11, 12, 13, 14, 15, 16, 17, 18] [0, 1, 2, 3, 4, 5, 6, 7, 19] rfl rfl (by decide) (by decide) hk1 hFc hP1 hD1
        have hP := hP.sub (ws' := LMw cA a0 aR aM aW aP aS aC aO nW nE cI cZ b0 bR bI bC bY bZ bF bL bN bX bT cL aL R f us P S sc li rc rn ro rd st mcd_892 mwd men mR mI mC mY mZ mF mmd mhi mL mN mfr mX mT mct mtk ot_874) [0, 1, 2, 3, 4, 5, 6, 7, 9, 10, 11, 12, 13, 14, 15, 16, 17, 18, 19, 8] rfl
        have hD := hD.sub (ws' := LMw cA a0 aR aM aW aP aS aC aO nW nE cI cZ b0 bR bI bC bY bZ bF bL bN bX bT cL aL R f us P S sc li rc rn ro rd st mcd_892 mwd men mR mI mC mY mZ mF mmd mhi mL mN mfr mX mT mct mtk ot_874) [0, 1, 2, 3, 4, 5, 6, 7, 9, 10, 11, 12, 13, 14, 15, 16, 17, 18, 19, 8] (by decide) rfl
        generalize H1 = H at hP hS ⊢
        clear hPc hDc hKc hFc hP1 hD1 hK1 hk1
        try dsimp only at h
        refine lv_istore (lv' := [(6, .int r892), (5, .int r874), (0, .ref b), (1, .ref a0), (2, .ref b0), (3, .ref aL), (4, .int x4)]) hx hb d_L_law_895 hl (by decide) rfl (fun ls hl => ?_)
        refine lv_aload_n hx hb d_L_law_897 rfl (lv_at hl 4 rfl) ?_
        have hPc := hP.sub (ws' := RSw cI cZ b0 bR bI bC bY bZ bF bL bN bX bT mcd_892 mwd men mR mI mC mY mZ mF mmd mhi mL mN mfr mX mT mct mtk) [8, 9, 10, 11, 12, 13, 14, 15, 16, 17, 18] rfl
        have hKc := hK.sub (tys' := [(cI, .int), (cZ, .boolean)]) [1, 2] rfl
        refine rq_calli (W.runV (As := []) (rest := []) ⟨hx, hb, hml, hown, hw⟩ (mR_thrown l dC dI cI cZ b0 bR bI bC bY bZ bF bL bN bX bT mcd_892 mwd men mR mI mC mY mZ mF mmd mhi mL mN mfr mX mT mct mtk _ h) (cwV 0 hw g_L_103 rfl rfl rfl (by decide +kernel) ⟨Nat.le_of_ble_eq_true rfl, Nat.le_of_ble_eq_true rfl⟩) (ro_PV (ci := 2) (q0 := 0) hKc hPc rfl rfl) rfl rfl hl.1 rfl (lv_room (Nat.le_of_ble_eq_true rfl)) d_L_law_898 ⟨by show 20 + 8 * (513 - (n + 1)) + 3 + 0 + 0 ≤ 601024; omega, by show 286816 + 48 * (513 - (n + 1)) + 18 + 0 + 0 ≤ 7293000; omega⟩) (fun r898 h => ?_)
        clear hPc hKc
        refine lv_iload hx hb d_L_law_901 (lv_at hl 1 rfl) ?_
        refine lv_icmp_eq (tgt := 908) hx hb d_L_law_903 (by decide) (fun c_903 => ?_) (fun c_903 => ?_)
        · have h := h.1 c_903
          refine lv_iload hx hb d_L_law_908 (lv_at hl 1 rfl) ?_
          refine lv_if_ne (tgt := 925) hx hb d_L_law_910 (by decide) (fun c_910 => ?_) (fun c_910 => ?_)
          · have h := h.2 c_910
            refine lv_goto (tgt := 1529) hx hb d_L_law_925 (by decide) ?_
            refine lv_iinc (v := x4 + (5 : Int32)) (lv' := [(4, .int (x4 + (5 : Int32))), (6, .int r892), (5, .int r874), (0, .ref b), (1, .ref a0), (2, .ref b0), (3, .ref aL)]) hx hb d_L_law_1529 hl (k := 6) rfl rfl (by decide) rfl (fun ls hl => ?_)
            refine lv_goto (tgt := 43) hx hb d_L_law_1532 (by decide) ?_
            refine W.widen (k := 20 + 8 * (513 - n)) (n := 286816 + 48 * (513 - n)) (by omega) (by omega) ?_
            exact ih (by omega) (x4 + (5 : Int32)) R f us P S sc li rc rn ro rd st mcd_892 mwd men mR mI mC mY mZ mF mmd mhi mL mN mfr mX mT mct mtk ot_874 H locs ls hP hD hS (lv_sub hl [3, 4, 5, 6, 0] rfl) h
          · have h := h.1 c_910
            refine lv_aload_n hx hb d_L_law_913 rfl (lv_at hl 5 rfl) ?_
            refine lv_iconst (v := (0 : Int32)) hx hb d_L_law_914 (by decide) ?_
            refine va_lald hx hb hK hP 19 3 rfl rfl h.1 d_L_law_915 ?_
            have h := h.2
            refine lv_iload hx hb d_L_law_916 (lv_at hl 0 rfl) ?_
            refine lv_i2l (v := r892.toInt64) hx hb d_L_law_918 rfl ?_
            refine W.lcmp hx hb d_L_law_919 ?_
            refine lv_if_eq (tgt := 925) hx hb d_L_law_920 (by decide) (fun c_920 => ?_) (fun c_920 => ?_)
            · have h := h.1 c_920
              refine lv_goto (tgt := 1529) hx hb d_L_law_925 (by decide) ?_
              refine lv_iinc (v := x4 + (5 : Int32)) (lv' := [(4, .int (x4 + (5 : Int32))), (6, .int r892), (5, .int r874), (0, .ref b), (1, .ref a0), (2, .ref b0), (3, .ref aL)]) hx hb d_L_law_1529 hl (k := 6) rfl rfl (by decide) rfl (fun ls hl => ?_)
              refine lv_goto (tgt := 43) hx hb d_L_law_1532 (by decide) ?_
              refine W.widen (k := 20 + 8 * (513 - n)) (n := 286816 + 48 * (513 - n)) (by omega) (by omega) ?_
              exact ih (by omega) (x4 + (5 : Int32)) R f us P S sc li rc rn ro rd st mcd_892 mwd men mR mI mC mY mZ mF mmd mhi mL mN mfr mX mT mct mtk ot_874 H locs ls hP hD hS (lv_sub hl [3, 4, 5, 6, 0] rfl) h
            · have h := h.2 c_920
              refine lv_iconst (v := (0 : Int32)) hx hb d_L_law_923 (by decide) ?_
              exact h.elim
        · have h := h.2 c_903
          refine lv_iconst (v := (0 : Int32)) hx hb d_L_law_906 (by decide) ?_
          exact h.elim
      · refine lv_tableIn (tgt := 928) hx hb d_L_law_59 (by decide) (by decide) rfl (by decide) ?_
        have h := h.2.2.2.2.2.2.2.2.2.2.2.2.1 rfl
        refine lv_aload_n hx hb d_L_law_928 rfl (lv_at hl 1 rfl) ?_
        refine lv_aload_n hx hb d_L_law_929 rfl (lv_at hl 0 rfl) ?_
        refine lv_iload hx hb d_L_law_930 (lv_at hl 4 rfl) ?_
        refine lv_iconst (v := (1 : Int32)) hx hb d_L_law_932 (by decide) ?_
        refine lv_iadd hx hb d_L_law_933 ?_
        refine va_sld hx hb hX hbl hbA hS h.1 d_L_law_934 ?_
        have h := h.2
        refine lv_aload_n hx hb d_L_law_935 rfl (lv_at hl 0 rfl) ?_
        refine lv_iload hx hb d_L_law_936 (lv_at hl 4 rfl) ?_
        refine lv_iconst (v := (2 : Int32)) hx hb d_L_law_938 (by decide) ?_
        refine lv_iadd hx hb d_L_law_939 ?_
        refine va_sld hx hb hX hbl hbA hS h.1 d_L_law_940 ?_
        have h := h.2
        refine lv_aload_n hx hb d_L_law_941 rfl (lv_at hl 0 rfl) ?_
        refine lv_iload hx hb d_L_law_942 (lv_at hl 4 rfl) ?_
        refine lv_iconst (v := (3 : Int32)) hx hb d_L_law_944 (by decide) ?_
        refine lv_iadd hx hb d_L_law_945 ?_
        refine va_sld hx hb hX hbl hbA hS h.1 d_L_law_946 ?_
        have h := h.2
        refine lv_i2l (v := (xs (x4 + (3 : Int32)).toNatClampNeg).toInt64) hx hb d_L_law_947 rfl ?_
        refine lv_bipush (v := (32 : Int32)) hx hb d_L_law_948 (by decide) ?_
        refine lv_lshl (v := ((xs (x4 + (3 : Int32)).toNatClampNeg).toInt64) <<< ((32 : Int32).toInt64 &&& 63)) hx hb d_L_law_950 rfl ?_
        refine lv_aload_n hx hb d_L_law_951 rfl (lv_at hl 0 rfl) ?_
        refine lv_iload hx hb d_L_law_952 (lv_at hl 4 rfl) ?_
        refine lv_iconst (v := (4 : Int32)) hx hb d_L_law_954 (by decide) ?_
        refine lv_iadd hx hb d_L_law_955 ?_
        refine va_sld hx hb hX hbl hbA hS h.1 d_L_law_956 ?_
        have h := h.2
        refine lv_i2l (v := (xs (x4 + (4 : Int32)).toNatClampNeg).toInt64) hx hb d_L_law_957 rfl ?_
        refine lv_ldc2 (v := (4294967295 : Int64)) hx hb hown (hw _ wd_846) d_L_law_958 ?_
        refine lv_land hx hb d_L_law_961 ?_
        refine lv_lor hx hb d_L_law_962 ?_
        have hPc := hP.sub (ws' := LHw cA a0 aR aM aW aP aS aC aO nW nE cL aL R f us P S sc li rc rn ro rd st ot) [0, 1, 2, 3, 4, 5, 6, 7, 19] rfl
        have hKc := hK.sub (tys' := [(cA, .int), (cL, .long)]) [0, 3] rfl
        have hDc := hD.sub (ws' := LHw cA a0 aR aM aW aP aS aC aO nW nE cL aL R f us P S sc li rc rn ro rd st ot) [0, 1, 2, 3, 4, 5, 6, 7, 19] (by decide) rfl
        have hFc := va_free (wc := LHw cA a0 aR aM aW aP aS aC aO nW nE cL aL R f us P S sc li rc rn ro rd st ot) hD hS hA [0, 1, 2, 3, 4, 5, 6, 7, 19] rfl
        refine va_calli (vx_runSW (As := [.ref a0, .int (xs (x4 + (1 : Int32)).toNatClampNeg), .int (xs (x4 + (2 : Int32)).toNatClampNeg), .long ((((xs (x4 + (3 : Int32)).toNatClampNeg).toInt64) <<< ((32 : Int32).toInt64 &&& 63)) ||| (((xs (x4 + (4 : Int32)).toNatClampNeg).toInt64) &&& (4294967295 : Int64)))]) (rest := []) ⟨hx, hb, hml, hown, hw⟩ (mL_bytePut l hlT sa dC dI cA a0 aR aM aW aP aS aC aO nW nE cL aL H.size R f us P S sc li rc rn ro rd st ot (xs (x4 + (1 : Int32)).toNatClampNeg) (xs (x4 + (2 : Int32)).toNatClampNeg) ((((xs (x4 + (3 : Int32)).toNatClampNeg).toInt64) <<< ((32 : Int32).toInt64 &&& 63)) ||| (((xs (x4 + (4 : Int32)).toNatClampNeg).toInt64) &&& (4294967295 : Int64))) _ h) (vx_cwSW 4 hw g_L_148 rfl rfl rfl (by decide +kernel) ⟨Nat.le_of_ble_eq_true rfl, Nat.le_of_ble_eq_true rfl⟩) (xh_PS hKc hPc hDc (xt_at hXT hS) hFc hNC) rfl rfl hl.1 rfl (lv_room (Nat.le_of_ble_eq_true rfl)) d_L_law_963 ⟨by show 20 + 8 * (513 - (n + 1)) + 3 ≤ 601024; omega, by show 286816 + 48 * (513 - (n + 1)) + 18 ≤ 7293000; omega⟩) hS (fun q _ h => hFc q h) hFc (fun r963 u t H1 locs ht hvm h hB hz1 hk1 hS => ?_)
        obtain ⟨f_963, rfl⟩ : ∃ z, z = u := ⟨_, rfl⟩
        obtain ⟨hP1, hK1, hD1⟩ := hB
        rw [ht] at hP1
        obtain ⟨hP, hD⟩ := va_join (wr := [(b0, .inr (2, [.int mcd, .int mwd, .int men, .ref bR, .ref bI, .ref bC, .ref bY, .ref bZ, .ref bF, .int mmd, .int mhi, .ref bL, .ref bN, .int mfr, .ref bX, .ref bT, .int mct, .int mtk])), (bR, .inl (cI, 32, .inl mR)), (bI, .inl (cI, 8192, .inl mI)), (bC, .inl (cI, 8192, .inl mC)), (bY, .inl (cZ, 8192, .inl mY)), (bZ, .inl (cI, 8192, .inl mZ)), (bF, .inl (cI, 8192, .inl mF)), (bL, .inl (cI, 65536, .inl mL)), (bN, .inl (cI, 65536, .inl mN)), (bX, .inl (cZ, 8192, .inl mX)), (bT, .inl (cI, 8192, .inl mT))]) (w1 := LHw cA a0 aR aM aW aP aS aC aO nW nE cL aL R f_963 us P S sc li rc rn ro rd st ot) hP hD [0, 1, 2, 3, 4, 5, 6, 7, 19] [8, 9, 10, 11, 12, 13, 14, 15, 16, 17, 18] rfl rfl (by decide) (by decide) hk1 hFc hP1 hD1
        have hP := hP.sub (ws' := LMw cA a0 aR aM aW aP aS aC aO nW nE cI cZ b0 bR bI bC bY bZ bF bL bN bX bT cL aL R f_963 us P S sc li rc rn ro rd st mcd mwd men mR mI mC mY mZ mF mmd mhi mL mN mfr mX mT mct mtk ot) [11, 12, 13, 14, 15, 16, 17, 18, 0, 1, 2, 3, 4, 5, 6, 7, 8, 9, 10, 19] rfl
        have hD := hD.sub (ws' := LMw cA a0 aR aM aW aP aS aC aO nW nE cI cZ b0 bR bI bC bY bZ bF bL bN bX bT cL aL R f_963 us P S sc li rc rn ro rd st mcd mwd men mR mI mC mY mZ mF mmd mhi mL mN mfr mX mT mct mtk ot) [11, 12, 13, 14, 15, 16, 17, 18, 0, 1, 2, 3, 4, 5, 6, 7, 8, 9, 10, 19] (by decide) rfl
        generalize H1 = H at hP hS ⊢
        clear hPc hDc hKc hFc hP1 hD1 hK1 hk1
        try dsimp only at h
        refine lv_istore (lv' := [(5, .int r963), (0, .ref b), (1, .ref a0), (2, .ref b0), (3, .ref aL), (4, .int x4)]) hx hb d_L_law_966 hl (by decide) rfl (fun ls hl => ?_)
        refine lv_aload_n hx hb d_L_law_968 rfl (lv_at hl 3 rfl) ?_
        refine lv_aload_n hx hb d_L_law_969 rfl (lv_at hl 1 rfl) ?_
        refine lv_iload hx hb d_L_law_970 (lv_at hl 5 rfl) ?_
        refine lv_iconst (v := (1 : Int32)) hx hb d_L_law_972 (by decide) ?_
        refine lv_iadd hx hb d_L_law_973 ?_
        refine va_sld hx hb hX hbl hbA hS h.1 d_L_law_974 ?_
        have h := h.2
        refine lv_aload_n hx hb d_L_law_975 rfl (lv_at hl 1 rfl) ?_
        refine lv_iload hx hb d_L_law_976 (lv_at hl 5 rfl) ?_
        refine lv_iconst (v := (2 : Int32)) hx hb d_L_law_978 (by decide) ?_
        refine lv_iadd hx hb d_L_law_979 ?_
        refine va_sld hx hb hX hbl hbA hS h.1 d_L_law_980 ?_
        have h := h.2
        refine lv_aload_n hx hb d_L_law_981 rfl (lv_at hl 1 rfl) ?_
        refine lv_iload hx hb d_L_law_982 (lv_at hl 5 rfl) ?_
        refine lv_iconst (v := (3 : Int32)) hx hb d_L_law_984 (by decide) ?_
        refine lv_iadd hx hb d_L_law_985 ?_
        refine va_sld hx hb hX hbl hbA hS h.1 d_L_law_986 ?_
        have h := h.2
        refine lv_i2l (v := (xs (x4 + (3 : Int32)).toNatClampNeg).toInt64) hx hb d_L_law_987 rfl ?_
        refine lv_bipush (v := (32 : Int32)) hx hb d_L_law_988 (by decide) ?_
        refine lv_lshl (v := ((xs (x4 + (3 : Int32)).toNatClampNeg).toInt64) <<< ((32 : Int32).toInt64 &&& 63)) hx hb d_L_law_990 rfl ?_
        refine lv_aload_n hx hb d_L_law_991 rfl (lv_at hl 1 rfl) ?_
        refine lv_iload hx hb d_L_law_992 (lv_at hl 5 rfl) ?_
        refine lv_iconst (v := (4 : Int32)) hx hb d_L_law_994 (by decide) ?_
        refine lv_iadd hx hb d_L_law_995 ?_
        refine va_sld hx hb hX hbl hbA hS h.1 d_L_law_996 ?_
        have h := h.2
        refine lv_i2l (v := (xs (x4 + (4 : Int32)).toNatClampNeg).toInt64) hx hb d_L_law_997 rfl ?_
        refine lv_ldc2 (v := (4294967295 : Int64)) hx hb hown (hw _ wd_846) d_L_law_998 ?_
        refine lv_land hx hb d_L_law_1001 ?_
        refine lv_lor hx hb d_L_law_1002 ?_
        have hPc := hP.sub (ws' := RSw cI cZ b0 bR bI bC bY bZ bF bL bN bX bT mcd mwd men mR mI mC mY mZ mF mmd mhi mL mN mfr mX mT mct mtk) [8, 9, 10, 11, 12, 13, 14, 15, 16, 17, 18] rfl
        have hKc := hK.sub (tys' := [(cI, .int), (cZ, .boolean)]) [1, 2] rfl
        have hDc := hD.sub (ws' := RSw cI cZ b0 bR bI bC bY bZ bF bL bN bX bT mcd mwd men mR mI mC mY mZ mF mmd mhi mL mN mfr mX mT mct mtk) [8, 9, 10, 11, 12, 13, 14, 15, 16, 17, 18] (by decide) rfl
        have hFc := va_free (wc := RSw cI cZ b0 bR bI bC bY bZ bF bL bN bX bT mcd mwd men mR mI mC mY mZ mF mmd mhi mL mN mfr mX mT mct mtk) hD hS hA [8, 9, 10, 11, 12, 13, 14, 15, 16, 17, 18] rfl
        refine va_callv (va_runV (As := [.int (xs (x4 + (1 : Int32)).toNatClampNeg), .int (xs (x4 + (2 : Int32)).toNatClampNeg), .long ((((xs (x4 + (3 : Int32)).toNatClampNeg).toInt64) <<< ((32 : Int32).toInt64 &&& 63)) ||| (((xs (x4 + (4 : Int32)).toNatClampNeg).toInt64) &&& (4294967295 : Int64)))]) (rest := []) ⟨hx, hb, hml, hown, hw⟩ (mR_bytePut l dC dI cI cZ b0 bR bI bC bY bZ bF bL bN bX bT H.size mcd mwd men mR mI mC mY mZ mF mmd mhi mL mN mfr mX mT mct mtk (xs (x4 + (1 : Int32)).toNatClampNeg) (xs (x4 + (2 : Int32)).toNatClampNeg) ((((xs (x4 + (3 : Int32)).toNatClampNeg).toInt64) <<< ((32 : Int32).toInt64 &&& 63)) ||| (((xs (x4 + (4 : Int32)).toNatClampNeg).toInt64) &&& (4294967295 : Int64))) _ h) (cwV 3 hw g_L_151 rfl rfl rfl (by decide +kernel) ⟨Nat.le_of_ble_eq_true rfl, Nat.le_of_ble_eq_true rfl⟩) (rw_PV (ci := 2) (q0 := 0) hKc hPc hDc rfl rfl) rfl rfl hl.1 rfl (lv_room (Nat.le_of_ble_eq_true rfl)) d_L_law_1003 ⟨by show 20 + 8 * (513 - (n + 1)) + 3 + 0 ≤ 601024; omega, by show 286816 + 48 * (513 - (n + 1)) + 18 + 0 ≤ 7293000; omega⟩) hS (fun q _ h => hFc q h) hFc (fun u t H1 locs ht hvm h hB hz1 hk1 hS => ?_)
        obtain ⟨mcd_1003, mL_1003⟩ := u
        obtain ⟨hP1, hK1, hD1⟩ := hB
        rw [ht] at hP1
        obtain ⟨hP, hD⟩ := va_join (wr := [(a0, .inr (0, [.ref aR, .ref aM])), (aR, .inl (cA, 32, .inl R)), (aM, .inr (1, [.ref aW, .int us, .ref aP, .ref aS, .int sc, .int li, .ref aC, .int rn, .ref aO, .int rd, .int st])), (aW, .inl (cA, nW, .inl f_963)), (aP, .inl (cA, nE, .inl P)), (aS, .inl (cA, nE, .inl S)), (aC, .inl (cA, nE, .inl rc)), (aO, .inl (cA, nE, .inl ro)), (aL, .inl (cL, 1, .inr (.inl ot)))]) (w1 := RSw cI cZ b0 bR bI bC bY bZ bF bL bN bX bT mcd_1003 mwd men mR mI mC mY mZ mF mmd mhi mL_1003 mN mfr mX mT mct mtk) hP hD [8, 9, 10, 11, 12, 13, 14, 15, 16, 17, 18] [0, 1, 2, 3, 4, 5, 6, 7, 19] rfl rfl (by decide) (by decide) hk1 hFc hP1 hD1
        have hP := hP.sub (ws' := LMw cA a0 aR aM aW aP aS aC aO nW nE cI cZ b0 bR bI bC bY bZ bF bL bN bX bT cL aL R f_963 us P S sc li rc rn ro rd st mcd_1003 mwd men mR mI mC mY mZ mF mmd mhi mL_1003 mN mfr mX mT mct mtk ot) [0, 1, 2, 3, 4, 5, 6, 7, 9, 10, 11, 12, 13, 14, 15, 16, 17, 18, 19, 8] rfl
        have hD := hD.sub (ws' := LMw cA a0 aR aM aW aP aS aC aO nW nE cI cZ b0 bR bI bC bY bZ bF bL bN bX bT cL aL R f_963 us P S sc li rc rn ro rd st mcd_1003 mwd men mR mI mC mY mZ mF mmd mhi mL_1003 mN mfr mX mT mct mtk ot) [0, 1, 2, 3, 4, 5, 6, 7, 9, 10, 11, 12, 13, 14, 15, 16, 17, 18, 19, 8] (by decide) rfl
        generalize H1 = H at hP hS ⊢
        clear hPc hDc hKc hFc hP1 hD1 hK1 hk1
        try dsimp only at h
        refine lv_aload_n hx hb d_L_law_1006 rfl (lv_at hl 3 rfl) ?_
        have hPc := hP.sub (ws' := RSw cI cZ b0 bR bI bC bY bZ bF bL bN bX bT mcd_1003 mwd men mR mI mC mY mZ mF mmd mhi mL_1003 mN mfr mX mT mct mtk) [8, 9, 10, 11, 12, 13, 14, 15, 16, 17, 18] rfl
        have hKc := hK.sub (tys' := [(cI, .int), (cZ, .boolean)]) [1, 2] rfl
        refine rq_calli (W.runV (As := []) (rest := []) ⟨hx, hb, hml, hown, hw⟩ (mR_thrown l dC dI cI cZ b0 bR bI bC bY bZ bF bL bN bX bT mcd_1003 mwd men mR mI mC mY mZ mF mmd mhi mL_1003 mN mfr mX mT mct mtk _ h) (cwV 0 hw g_L_103 rfl rfl rfl (by decide +kernel) ⟨Nat.le_of_ble_eq_true rfl, Nat.le_of_ble_eq_true rfl⟩) (ro_PV (ci := 2) (q0 := 0) hKc hPc rfl rfl) rfl rfl hl.1 rfl (lv_room (Nat.le_of_ble_eq_true rfl)) d_L_law_1007 ⟨by show 20 + 8 * (513 - (n + 1)) + 3 + 0 + 0 ≤ 601024; omega, by show 286816 + 48 * (513 - (n + 1)) + 18 + 0 + 0 ≤ 7293000; omega⟩) (fun r1007 h => ?_)
        clear hPc hKc
        refine lv_iload hx hb d_L_law_1010 (lv_at hl 0 rfl) ?_
        refine lv_icmp_eq (tgt := 1017) hx hb d_L_law_1012 (by decide) (fun c_1012 => ?_) (fun c_1012 => ?_)
        · have h := h.1 c_1012
          refine lv_goto (tgt := 1529) hx hb d_L_law_1017 (by decide) ?_
          refine lv_iinc (v := x4 + (5 : Int32)) (lv' := [(4, .int (x4 + (5 : Int32))), (5, .int r963), (0, .ref b), (1, .ref a0), (2, .ref b0), (3, .ref aL)]) hx hb d_L_law_1529 hl (k := 5) rfl rfl (by decide) rfl (fun ls hl => ?_)
          refine lv_goto (tgt := 43) hx hb d_L_law_1532 (by decide) ?_
          refine W.widen (k := 20 + 8 * (513 - n)) (n := 286816 + 48 * (513 - n)) (by omega) (by omega) ?_
          exact ih (by omega) (x4 + (5 : Int32)) R f_963 us P S sc li rc rn ro rd st mcd_1003 mwd men mR mI mC mY mZ mF mmd mhi mL_1003 mN mfr mX mT mct mtk ot H locs ls hP hD hS (lv_sub hl [2, 3, 4, 5, 0] rfl) h
        · have h := h.2 c_1012
          refine lv_iconst (v := (0 : Int32)) hx hb d_L_law_1015 (by decide) ?_
          exact h.elim
      · refine lv_tableIn (tgt := 1020) hx hb d_L_law_59 (by decide) (by decide) rfl (by decide) ?_
        have h := h.2.2.2.2.2.2.2.2.2.2.2.2.2.1 rfl
        refine lv_aload_n hx hb d_L_law_1020 rfl (lv_at hl 1 rfl) ?_
        refine lv_aload_n hx hb d_L_law_1021 rfl (lv_at hl 0 rfl) ?_
        refine lv_iload hx hb d_L_law_1022 (lv_at hl 4 rfl) ?_
        refine lv_iconst (v := (1 : Int32)) hx hb d_L_law_1024 (by decide) ?_
        refine lv_iadd hx hb d_L_law_1025 ?_
        refine va_sld hx hb hX hbl hbA hS h.1 d_L_law_1026 ?_
        have h := h.2
        refine lv_aload_n hx hb d_L_law_1027 rfl (lv_at hl 3 rfl) ?_
        have hPc := hP.sub (ws' := LHw cA a0 aR aM aW aP aS aC aO nW nE cL aL R f us P S sc li rc rn ro rd st ot) [0, 1, 2, 3, 4, 5, 6, 7, 19] rfl
        have hKc := hK.sub (tys' := [(cA, .int), (cL, .long)]) [0, 3] rfl
        have hDc := hD.sub (ws' := LHw cA a0 aR aM aW aP aS aC aO nW nE cL aL R f us P S sc li rc rn ro rd st ot) [0, 1, 2, 3, 4, 5, 6, 7, 19] (by decide) rfl
        have hFc := va_free (wc := LHw cA a0 aR aM aW aP aS aC aO nW nE cL aL R f us P S sc li rc rn ro rd st ot) hD hS hA [0, 1, 2, 3, 4, 5, 6, 7, 19] rfl
        refine va_calli (vx_runSW (As := [.ref a0, .int (xs (x4 + (1 : Int32)).toNatClampNeg), .ref aL]) (rest := []) ⟨hx, hb, hml, hown, hw⟩ (mL_kind l hlT sa dC dI cA a0 aR aM aW aP aS aC aO nW nE cL aL H.size R f us P S sc li rc rn ro rd st ot (xs (x4 + (1 : Int32)).toNatClampNeg) _ h) (vx_cwSW 3 hw g_L_152 rfl rfl rfl (by decide +kernel) ⟨Nat.le_of_ble_eq_true rfl, Nat.le_of_ble_eq_true rfl⟩) (xh_PS hKc hPc hDc (xt_at hXT hS) hFc hNC) rfl rfl hl.1 rfl (lv_room (Nat.le_of_ble_eq_true rfl)) d_L_law_1028 ⟨by show 20 + 8 * (513 - (n + 1)) + 1 ≤ 601024; omega, by show 286816 + 48 * (513 - (n + 1)) + 6 ≤ 7293000; omega⟩) hS (fun q _ h => hFc q h) hFc (fun r1028 u t H1 locs ht hvm h hB hz1 hk1 hS => ?_)
        obtain ⟨ot_1028, rfl⟩ : ∃ z, z = u := ⟨_, rfl⟩
        obtain ⟨hP1, hK1, hD1⟩ := hB
        rw [ht] at hP1
        obtain ⟨hP, hD⟩ := va_join (wr := [(b0, .inr (2, [.int mcd, .int mwd, .int men, .ref bR, .ref bI, .ref bC, .ref bY, .ref bZ, .ref bF, .int mmd, .int mhi, .ref bL, .ref bN, .int mfr, .ref bX, .ref bT, .int mct, .int mtk])), (bR, .inl (cI, 32, .inl mR)), (bI, .inl (cI, 8192, .inl mI)), (bC, .inl (cI, 8192, .inl mC)), (bY, .inl (cZ, 8192, .inl mY)), (bZ, .inl (cI, 8192, .inl mZ)), (bF, .inl (cI, 8192, .inl mF)), (bL, .inl (cI, 65536, .inl mL)), (bN, .inl (cI, 65536, .inl mN)), (bX, .inl (cZ, 8192, .inl mX)), (bT, .inl (cI, 8192, .inl mT))]) (w1 := LHw cA a0 aR aM aW aP aS aC aO nW nE cL aL R f us P S sc li rc rn ro rd st ot_1028) hP hD [0, 1, 2, 3, 4, 5, 6, 7, 19] [8, 9, 10, 11, 12, 13, 14, 15, 16, 17, 18] rfl rfl (by decide) (by decide) hk1 hFc hP1 hD1
        have hP := hP.sub (ws' := LMw cA a0 aR aM aW aP aS aC aO nW nE cI cZ b0 bR bI bC bY bZ bF bL bN bX bT cL aL R f us P S sc li rc rn ro rd st mcd mwd men mR mI mC mY mZ mF mmd mhi mL mN mfr mX mT mct mtk ot_1028) [11, 12, 13, 14, 15, 16, 17, 18, 0, 1, 2, 3, 4, 5, 6, 7, 8, 9, 10, 19] rfl
        have hD := hD.sub (ws' := LMw cA a0 aR aM aW aP aS aC aO nW nE cI cZ b0 bR bI bC bY bZ bF bL bN bX bT cL aL R f us P S sc li rc rn ro rd st mcd mwd men mR mI mC mY mZ mF mmd mhi mL mN mfr mX mT mct mtk ot_1028) [11, 12, 13, 14, 15, 16, 17, 18, 0, 1, 2, 3, 4, 5, 6, 7, 8, 9, 10, 19] (by decide) rfl
        generalize H1 = H at hP hS ⊢
        clear hPc hDc hKc hFc hP1 hD1 hK1 hk1
        try dsimp only at h
        refine lv_istore (lv' := [(5, .int r1028), (0, .ref b), (1, .ref a0), (2, .ref b0), (3, .ref aL), (4, .int x4)]) hx hb d_L_law_1031 hl (by decide) rfl (fun ls hl => ?_)
        refine lv_aload_n hx hb d_L_law_1033 rfl (lv_at hl 3 rfl) ?_
        refine lv_aload_n hx hb d_L_law_1034 rfl (lv_at hl 1 rfl) ?_
        refine lv_iload hx hb d_L_law_1035 (lv_at hl 5 rfl) ?_
        refine lv_iconst (v := (1 : Int32)) hx hb d_L_law_1037 (by decide) ?_
        refine lv_iadd hx hb d_L_law_1038 ?_
        refine va_sld hx hb hX hbl hbA hS h.1 d_L_law_1039 ?_
        have h := h.2
        have hPc := hP.sub (ws' := RSw cI cZ b0 bR bI bC bY bZ bF bL bN bX bT mcd mwd men mR mI mC mY mZ mF mmd mhi mL mN mfr mX mT mct mtk) [8, 9, 10, 11, 12, 13, 14, 15, 16, 17, 18] rfl
        have hKc := hK.sub (tys' := [(cI, .int), (cZ, .boolean)]) [1, 2] rfl
        have hDc := hD.sub (ws' := RSw cI cZ b0 bR bI bC bY bZ bF bL bN bX bT mcd mwd men mR mI mC mY mZ mF mmd mhi mL mN mfr mX mT mct mtk) [8, 9, 10, 11, 12, 13, 14, 15, 16, 17, 18] (by decide) rfl
        have hFc := va_free (wc := RSw cI cZ b0 bR bI bC bY bZ bF bL bN bX bT mcd mwd men mR mI mC mY mZ mF mmd mhi mL mN mfr mX mT mct mtk) hD hS hA [8, 9, 10, 11, 12, 13, 14, 15, 16, 17, 18] rfl
        refine va_calli (va_runV (As := [.int (xs (x4 + (1 : Int32)).toNatClampNeg)]) (rest := []) ⟨hx, hb, hml, hown, hw⟩ (mR_kind l dC dI cI cZ b0 bR bI bC bY bZ bF bL bN bX bT H.size mcd mwd men mR mI mC mY mZ mF mmd mhi mL mN mfr mX mT mct mtk (xs (x4 + (1 : Int32)).toNatClampNeg) _ h) (cwV 1 hw g_L_155 rfl rfl rfl (by decide +kernel) ⟨Nat.le_of_ble_eq_true rfl, Nat.le_of_ble_eq_true rfl⟩) (rw_PV (ci := 2) (q0 := 0) hKc hPc hDc rfl rfl) rfl rfl hl.1 rfl (lv_room (Nat.le_of_ble_eq_true rfl)) d_L_law_1040 ⟨by show 20 + 8 * (513 - (n + 1)) + 1 + 0 ≤ 601024; omega, by show 286816 + 48 * (513 - (n + 1)) + 6 + 0 ≤ 7293000; omega⟩) hS (fun q _ h => hFc q h) hFc (fun r1040 u t H1 locs ht hvm h hB hz1 hk1 hS => ?_)
        obtain ⟨mcd_1040, rfl⟩ : ∃ z, z = u := ⟨_, rfl⟩
        obtain ⟨hP1, hK1, hD1⟩ := hB
        rw [ht] at hP1
        obtain ⟨hP, hD⟩ := va_join (wr := [(a0, .inr (0, [.ref aR, .ref aM])), (aR, .inl (cA, 32, .inl R)), (aM, .inr (1, [.ref aW, .int us, .ref aP, .ref aS, .int sc, .int li, .ref aC, .int rn, .ref aO, .int rd, .int st])), (aW, .inl (cA, nW, .inl f)), (aP, .inl (cA, nE, .inl P)), (aS, .inl (cA, nE, .inl S)), (aC, .inl (cA, nE, .inl rc)), (aO, .inl (cA, nE, .inl ro)), (aL, .inl (cL, 1, .inr (.inl ot_1028)))]) (w1 := RSw cI cZ b0 bR bI bC bY bZ bF bL bN bX bT mcd_1040 mwd men mR mI mC mY mZ mF mmd mhi mL mN mfr mX mT mct mtk) hP hD [8, 9, 10, 11, 12, 13, 14, 15, 16, 17, 18] [0, 1, 2, 3, 4, 5, 6, 7, 19] rfl rfl (by decide) (by decide) hk1 hFc hP1 hD1
        have hP := hP.sub (ws' := LMw cA a0 aR aM aW aP aS aC aO nW nE cI cZ b0 bR bI bC bY bZ bF bL bN bX bT cL aL R f us P S sc li rc rn ro rd st mcd_1040 mwd men mR mI mC mY mZ mF mmd mhi mL mN mfr mX mT mct mtk ot_1028) [0, 1, 2, 3, 4, 5, 6, 7, 9, 10, 11, 12, 13, 14, 15, 16, 17, 18, 19, 8] rfl
        have hD := hD.sub (ws' := LMw cA a0 aR aM aW aP aS aC aO nW nE cI cZ b0 bR bI bC bY bZ bF bL bN bX bT cL aL R f us P S sc li rc rn ro rd st mcd_1040 mwd men mR mI mC mY mZ mF mmd mhi mL mN mfr mX mT mct mtk ot_1028) [0, 1, 2, 3, 4, 5, 6, 7, 9, 10, 11, 12, 13, 14, 15, 16, 17, 18, 19, 8] (by decide) rfl
        generalize H1 = H at hP hS ⊢
        clear hPc hDc hKc hFc hP1 hD1 hK1 hk1
        try dsimp only at h
        refine lv_istore (lv' := [(6, .int r1040), (5, .int r1028), (0, .ref b), (1, .ref a0), (2, .ref b0), (3, .ref aL), (4, .int x4)]) hx hb d_L_law_1043 hl (by decide) rfl (fun ls hl => ?_)
        refine lv_aload_n hx hb d_L_law_1045 rfl (lv_at hl 4 rfl) ?_
        have hPc := hP.sub (ws' := RSw cI cZ b0 bR bI bC bY bZ bF bL bN bX bT mcd_1040 mwd men mR mI mC mY mZ mF mmd mhi mL mN mfr mX mT mct mtk) [8, 9, 10, 11, 12, 13, 14, 15, 16, 17, 18] rfl
        have hKc := hK.sub (tys' := [(cI, .int), (cZ, .boolean)]) [1, 2] rfl
        refine rq_calli (W.runV (As := []) (rest := []) ⟨hx, hb, hml, hown, hw⟩ (mR_thrown l dC dI cI cZ b0 bR bI bC bY bZ bF bL bN bX bT mcd_1040 mwd men mR mI mC mY mZ mF mmd mhi mL mN mfr mX mT mct mtk _ h) (cwV 0 hw g_L_103 rfl rfl rfl (by decide +kernel) ⟨Nat.le_of_ble_eq_true rfl, Nat.le_of_ble_eq_true rfl⟩) (ro_PV (ci := 2) (q0 := 0) hKc hPc rfl rfl) rfl rfl hl.1 rfl (lv_room (Nat.le_of_ble_eq_true rfl)) d_L_law_1046 ⟨by show 20 + 8 * (513 - (n + 1)) + 1 + 0 + 0 ≤ 601024; omega, by show 286816 + 48 * (513 - (n + 1)) + 6 + 0 + 0 ≤ 7293000; omega⟩) (fun r1046 h => ?_)
        clear hPc hKc
        refine lv_iload hx hb d_L_law_1049 (lv_at hl 1 rfl) ?_
        refine lv_icmp_eq (tgt := 1056) hx hb d_L_law_1051 (by decide) (fun c_1051 => ?_) (fun c_1051 => ?_)
        · have h := h.1 c_1051
          refine lv_iload hx hb d_L_law_1056 (lv_at hl 1 rfl) ?_
          refine lv_if_ne (tgt := 1073) hx hb d_L_law_1058 (by decide) (fun c_1058 => ?_) (fun c_1058 => ?_)
          · have h := h.2 c_1058
            refine lv_goto (tgt := 1529) hx hb d_L_law_1073 (by decide) ?_
            refine lv_iinc (v := x4 + (5 : Int32)) (lv' := [(4, .int (x4 + (5 : Int32))), (6, .int r1040), (5, .int r1028), (0, .ref b), (1, .ref a0), (2, .ref b0), (3, .ref aL)]) hx hb d_L_law_1529 hl (k := 6) rfl rfl (by decide) rfl (fun ls hl => ?_)
            refine lv_goto (tgt := 43) hx hb d_L_law_1532 (by decide) ?_
            refine W.widen (k := 20 + 8 * (513 - n)) (n := 286816 + 48 * (513 - n)) (by omega) (by omega) ?_
            exact ih (by omega) (x4 + (5 : Int32)) R f us P S sc li rc rn ro rd st mcd_1040 mwd men mR mI mC mY mZ mF mmd mhi mL mN mfr mX mT mct mtk ot_1028 H locs ls hP hD hS (lv_sub hl [3, 4, 5, 6, 0] rfl) h
          · have h := h.1 c_1058
            refine lv_aload_n hx hb d_L_law_1061 rfl (lv_at hl 5 rfl) ?_
            refine lv_iconst (v := (0 : Int32)) hx hb d_L_law_1062 (by decide) ?_
            refine va_lald hx hb hK hP 19 3 rfl rfl h.1 d_L_law_1063 ?_
            have h := h.2
            refine lv_iload hx hb d_L_law_1064 (lv_at hl 0 rfl) ?_
            refine lv_i2l (v := r1040.toInt64) hx hb d_L_law_1066 rfl ?_
            refine W.lcmp hx hb d_L_law_1067 ?_
            refine lv_if_eq (tgt := 1073) hx hb d_L_law_1068 (by decide) (fun c_1068 => ?_) (fun c_1068 => ?_)
            · have h := h.1 c_1068
              refine lv_goto (tgt := 1529) hx hb d_L_law_1073 (by decide) ?_
              refine lv_iinc (v := x4 + (5 : Int32)) (lv' := [(4, .int (x4 + (5 : Int32))), (6, .int r1040), (5, .int r1028), (0, .ref b), (1, .ref a0), (2, .ref b0), (3, .ref aL)]) hx hb d_L_law_1529 hl (k := 6) rfl rfl (by decide) rfl (fun ls hl => ?_)
              refine lv_goto (tgt := 43) hx hb d_L_law_1532 (by decide) ?_
              refine W.widen (k := 20 + 8 * (513 - n)) (n := 286816 + 48 * (513 - n)) (by omega) (by omega) ?_
              exact ih (by omega) (x4 + (5 : Int32)) R f us P S sc li rc rn ro rd st mcd_1040 mwd men mR mI mC mY mZ mF mmd mhi mL mN mfr mX mT mct mtk ot_1028 H locs ls hP hD hS (lv_sub hl [3, 4, 5, 6, 0] rfl) h
            · have h := h.2 c_1068
              refine lv_iconst (v := (0 : Int32)) hx hb d_L_law_1071 (by decide) ?_
              exact h.elim
        · have h := h.2 c_1051
          refine lv_iconst (v := (0 : Int32)) hx hb d_L_law_1054 (by decide) ?_
          exact h.elim
      · refine lv_tableIn (tgt := 1076) hx hb d_L_law_59 (by decide) (by decide) rfl (by decide) ?_
        have h := h.2.2.2.2.2.2.2.2.2.2.2.2.2.2.1 rfl
        refine lv_aload_n hx hb d_L_law_1076 rfl (lv_at hl 1 rfl) ?_
        refine lv_aload_n hx hb d_L_law_1077 rfl (lv_at hl 0 rfl) ?_
        refine lv_iload hx hb d_L_law_1078 (lv_at hl 4 rfl) ?_
        refine lv_iconst (v := (1 : Int32)) hx hb d_L_law_1080 (by decide) ?_
        refine lv_iadd hx hb d_L_law_1081 ?_
        refine va_sld hx hb hX hbl hbA hS h.1 d_L_law_1082 ?_
        have h := h.2
        refine lv_aload_n hx hb d_L_law_1083 rfl (lv_at hl 3 rfl) ?_
        have hPc := hP.sub (ws' := LHw cA a0 aR aM aW aP aS aC aO nW nE cL aL R f us P S sc li rc rn ro rd st ot) [0, 1, 2, 3, 4, 5, 6, 7, 19] rfl
        have hKc := hK.sub (tys' := [(cA, .int), (cL, .long)]) [0, 3] rfl
        have hDc := hD.sub (ws' := LHw cA a0 aR aM aW aP aS aC aO nW nE cL aL R f us P S sc li rc rn ro rd st ot) [0, 1, 2, 3, 4, 5, 6, 7, 19] (by decide) rfl
        have hFc := va_free (wc := LHw cA a0 aR aM aW aP aS aC aO nW nE cL aL R f us P S sc li rc rn ro rd st ot) hD hS hA [0, 1, 2, 3, 4, 5, 6, 7, 19] rfl
        refine va_calli (vx_runSW (As := [.ref a0, .int (xs (x4 + (1 : Int32)).toNatClampNeg), .ref aL]) (rest := []) ⟨hx, hb, hml, hown, hw⟩ (mL_value l hlT sa dC dI cA a0 aR aM aW aP aS aC aO nW nE cL aL H.size R f us P S sc li rc rn ro rd st ot (xs (x4 + (1 : Int32)).toNatClampNeg) _ h) (vx_cwSW 3 hw g_L_156 rfl rfl rfl (by decide +kernel) ⟨Nat.le_of_ble_eq_true rfl, Nat.le_of_ble_eq_true rfl⟩) (xh_PS hKc hPc hDc (xt_at hXT hS) hFc hNC) rfl rfl hl.1 rfl (lv_room (Nat.le_of_ble_eq_true rfl)) d_L_law_1084 ⟨by show 20 + 8 * (513 - (n + 1)) + 1 ≤ 601024; omega, by show 286816 + 48 * (513 - (n + 1)) + 6 ≤ 7293000; omega⟩) hS (fun q _ h => hFc q h) hFc (fun r1084 u t H1 locs ht hvm h hB hz1 hk1 hS => ?_)
        obtain ⟨ot_1084, rfl⟩ : ∃ z, z = u := ⟨_, rfl⟩
        obtain ⟨hP1, hK1, hD1⟩ := hB
        rw [ht] at hP1
        obtain ⟨hP, hD⟩ := va_join (wr := [(b0, .inr (2, [.int mcd, .int mwd, .int men, .ref bR, .ref bI, .ref bC, .ref bY, .ref bZ, .ref bF, .int mmd, .int mhi, .ref bL, .ref bN, .int mfr, .ref bX, .ref bT, .int mct, .int mtk])), (bR, .inl (cI, 32, .inl mR)), (bI, .inl (cI, 8192, .inl mI)), (bC, .inl (cI, 8192, .inl mC)), (bY, .inl (cZ, 8192, .inl mY)), (bZ, .inl (cI, 8192, .inl mZ)), (bF, .inl (cI, 8192, .inl mF)), (bL, .inl (cI, 65536, .inl mL)), (bN, .inl (cI, 65536, .inl mN)), (bX, .inl (cZ, 8192, .inl mX)), (bT, .inl (cI, 8192, .inl mT))]) (w1 := LHw cA a0 aR aM aW aP aS aC aO nW nE cL aL R f us P S sc li rc rn ro rd st ot_1084) hP hD [0, 1, 2, 3, 4, 5, 6, 7, 19] [8, 9, 10, 11, 12, 13, 14, 15, 16, 17, 18] rfl rfl (by decide) (by decide) hk1 hFc hP1 hD1
        have hP := hP.sub (ws' := LMw cA a0 aR aM aW aP aS aC aO nW nE cI cZ b0 bR bI bC bY bZ bF bL bN bX bT cL aL R f us P S sc li rc rn ro rd st mcd mwd men mR mI mC mY mZ mF mmd mhi mL mN mfr mX mT mct mtk ot_1084) [11, 12, 13, 14, 15, 16, 17, 18, 0, 1, 2, 3, 4, 5, 6, 7, 8, 9, 10, 19] rfl
        have hD := hD.sub (ws' := LMw cA a0 aR aM aW aP aS aC aO nW nE cI cZ b0 bR bI bC bY bZ bF bL bN bX bT cL aL R f us P S sc li rc rn ro rd st mcd mwd men mR mI mC mY mZ mF mmd mhi mL mN mfr mX mT mct mtk ot_1084) [11, 12, 13, 14, 15, 16, 17, 18, 0, 1, 2, 3, 4, 5, 6, 7, 8, 9, 10, 19] (by decide) rfl
        generalize H1 = H at hP hS ⊢
        clear hPc hDc hKc hFc hP1 hD1 hK1 hk1
        try dsimp only at h
        refine lv_istore (lv' := [(5, .int r1084), (0, .ref b), (1, .ref a0), (2, .ref b0), (3, .ref aL), (4, .int x4)]) hx hb d_L_law_1087 hl (by decide) rfl (fun ls hl => ?_)
        refine lv_aload_n hx hb d_L_law_1089 rfl (lv_at hl 3 rfl) ?_
        refine lv_aload_n hx hb d_L_law_1090 rfl (lv_at hl 1 rfl) ?_
        refine lv_iload hx hb d_L_law_1091 (lv_at hl 5 rfl) ?_
        refine lv_iconst (v := (1 : Int32)) hx hb d_L_law_1093 (by decide) ?_
        refine lv_iadd hx hb d_L_law_1094 ?_
        refine va_sld hx hb hX hbl hbA hS h.1 d_L_law_1095 ?_
        have h := h.2
        have hPc := hP.sub (ws' := RSw cI cZ b0 bR bI bC bY bZ bF bL bN bX bT mcd mwd men mR mI mC mY mZ mF mmd mhi mL mN mfr mX mT mct mtk) [8, 9, 10, 11, 12, 13, 14, 15, 16, 17, 18] rfl
        have hKc := hK.sub (tys' := [(cI, .int), (cZ, .boolean)]) [1, 2] rfl
        have hDc := hD.sub (ws' := RSw cI cZ b0 bR bI bC bY bZ bF bL bN bX bT mcd mwd men mR mI mC mY mZ mF mmd mhi mL mN mfr mX mT mct mtk) [8, 9, 10, 11, 12, 13, 14, 15, 16, 17, 18] (by decide) rfl
        have hFc := va_free (wc := RSw cI cZ b0 bR bI bC bY bZ bF bL bN bX bT mcd mwd men mR mI mC mY mZ mF mmd mhi mL mN mfr mX mT mct mtk) hD hS hA [8, 9, 10, 11, 12, 13, 14, 15, 16, 17, 18] rfl
        refine va_calli (va_runV (As := [.int (xs (x4 + (1 : Int32)).toNatClampNeg)]) (rest := []) ⟨hx, hb, hml, hown, hw⟩ (mR_value l dC dI cI cZ b0 bR bI bC bY bZ bF bL bN bX bT H.size mcd mwd men mR mI mC mY mZ mF mmd mhi mL mN mfr mX mT mct mtk (xs (x4 + (1 : Int32)).toNatClampNeg) _ h) (cwV 1 hw g_L_158 rfl rfl rfl (by decide +kernel) ⟨Nat.le_of_ble_eq_true rfl, Nat.le_of_ble_eq_true rfl⟩) (rw_PV (ci := 2) (q0 := 0) hKc hPc hDc rfl rfl) rfl rfl hl.1 rfl (lv_room (Nat.le_of_ble_eq_true rfl)) d_L_law_1096 ⟨by show 20 + 8 * (513 - (n + 1)) + 1 + 0 ≤ 601024; omega, by show 286816 + 48 * (513 - (n + 1)) + 6 + 0 ≤ 7293000; omega⟩) hS (fun q _ h => hFc q h) hFc (fun r1096 u t H1 locs ht hvm h hB hz1 hk1 hS => ?_)
        obtain ⟨mcd_1096, rfl⟩ : ∃ z, z = u := ⟨_, rfl⟩
        obtain ⟨hP1, hK1, hD1⟩ := hB
        rw [ht] at hP1
        obtain ⟨hP, hD⟩ := va_join (wr := [(a0, .inr (0, [.ref aR, .ref aM])), (aR, .inl (cA, 32, .inl R)), (aM, .inr (1, [.ref aW, .int us, .ref aP, .ref aS, .int sc, .int li, .ref aC, .int rn, .ref aO, .int rd, .int st])), (aW, .inl (cA, nW, .inl f)), (aP, .inl (cA, nE, .inl P)), (aS, .inl (cA, nE, .inl S)), (aC, .inl (cA, nE, .inl rc)), (aO, .inl (cA, nE, .inl ro)), (aL, .inl (cL, 1, .inr (.inl ot_1084)))]) (w1 := RSw cI cZ b0 bR bI bC bY bZ bF bL bN bX bT mcd_1096 mwd men mR mI mC mY mZ mF mmd mhi mL mN mfr mX mT mct mtk) hP hD [8, 9, 10, 11, 12, 13, 14, 15, 16, 17, 18] [0, 1, 2, 3, 4, 5, 6, 7, 19] rfl rfl (by decide) (by decide) hk1 hFc hP1 hD1
        have hP := hP.sub (ws' := LMw cA a0 aR aM aW aP aS aC aO nW nE cI cZ b0 bR bI bC bY bZ bF bL bN bX bT cL aL R f us P S sc li rc rn ro rd st mcd_1096 mwd men mR mI mC mY mZ mF mmd mhi mL mN mfr mX mT mct mtk ot_1084) [0, 1, 2, 3, 4, 5, 6, 7, 9, 10, 11, 12, 13, 14, 15, 16, 17, 18, 19, 8] rfl
        have hD := hD.sub (ws' := LMw cA a0 aR aM aW aP aS aC aO nW nE cI cZ b0 bR bI bC bY bZ bF bL bN bX bT cL aL R f us P S sc li rc rn ro rd st mcd_1096 mwd men mR mI mC mY mZ mF mmd mhi mL mN mfr mX mT mct mtk ot_1084) [0, 1, 2, 3, 4, 5, 6, 7, 9, 10, 11, 12, 13, 14, 15, 16, 17, 18, 19, 8] (by decide) rfl
        generalize H1 = H at hP hS ⊢
        clear hPc hDc hKc hFc hP1 hD1 hK1 hk1
        try dsimp only at h
        refine lv_istore (lv' := [(6, .int r1096), (5, .int r1084), (0, .ref b), (1, .ref a0), (2, .ref b0), (3, .ref aL), (4, .int x4)]) hx hb d_L_law_1099 hl (by decide) rfl (fun ls hl => ?_)
        refine lv_aload_n hx hb d_L_law_1101 rfl (lv_at hl 4 rfl) ?_
        have hPc := hP.sub (ws' := RSw cI cZ b0 bR bI bC bY bZ bF bL bN bX bT mcd_1096 mwd men mR mI mC mY mZ mF mmd mhi mL mN mfr mX mT mct mtk) [8, 9, 10, 11, 12, 13, 14, 15, 16, 17, 18] rfl
        have hKc := hK.sub (tys' := [(cI, .int), (cZ, .boolean)]) [1, 2] rfl
        refine rq_calli (W.runV (As := []) (rest := []) ⟨hx, hb, hml, hown, hw⟩ (mR_thrown l dC dI cI cZ b0 bR bI bC bY bZ bF bL bN bX bT mcd_1096 mwd men mR mI mC mY mZ mF mmd mhi mL mN mfr mX mT mct mtk _ h) (cwV 0 hw g_L_103 rfl rfl rfl (by decide +kernel) ⟨Nat.le_of_ble_eq_true rfl, Nat.le_of_ble_eq_true rfl⟩) (ro_PV (ci := 2) (q0 := 0) hKc hPc rfl rfl) rfl rfl hl.1 rfl (lv_room (Nat.le_of_ble_eq_true rfl)) d_L_law_1102 ⟨by show 20 + 8 * (513 - (n + 1)) + 1 + 0 + 0 ≤ 601024; omega, by show 286816 + 48 * (513 - (n + 1)) + 6 + 0 + 0 ≤ 7293000; omega⟩) (fun r1102 h => ?_)
        clear hPc hKc
        refine lv_iload hx hb d_L_law_1105 (lv_at hl 1 rfl) ?_
        refine lv_icmp_eq (tgt := 1112) hx hb d_L_law_1107 (by decide) (fun c_1107 => ?_) (fun c_1107 => ?_)
        · have h := h.1 c_1107
          refine lv_iload hx hb d_L_law_1112 (lv_at hl 1 rfl) ?_
          refine lv_if_ne (tgt := 1129) hx hb d_L_law_1114 (by decide) (fun c_1114 => ?_) (fun c_1114 => ?_)
          · have h := h.2 c_1114
            refine lv_goto (tgt := 1529) hx hb d_L_law_1129 (by decide) ?_
            refine lv_iinc (v := x4 + (5 : Int32)) (lv' := [(4, .int (x4 + (5 : Int32))), (6, .int r1096), (5, .int r1084), (0, .ref b), (1, .ref a0), (2, .ref b0), (3, .ref aL)]) hx hb d_L_law_1529 hl (k := 6) rfl rfl (by decide) rfl (fun ls hl => ?_)
            refine lv_goto (tgt := 43) hx hb d_L_law_1532 (by decide) ?_
            refine W.widen (k := 20 + 8 * (513 - n)) (n := 286816 + 48 * (513 - n)) (by omega) (by omega) ?_
            exact ih (by omega) (x4 + (5 : Int32)) R f us P S sc li rc rn ro rd st mcd_1096 mwd men mR mI mC mY mZ mF mmd mhi mL mN mfr mX mT mct mtk ot_1084 H locs ls hP hD hS (lv_sub hl [3, 4, 5, 6, 0] rfl) h
          · have h := h.1 c_1114
            refine lv_aload_n hx hb d_L_law_1117 rfl (lv_at hl 5 rfl) ?_
            refine lv_iconst (v := (0 : Int32)) hx hb d_L_law_1118 (by decide) ?_
            refine va_lald hx hb hK hP 19 3 rfl rfl h.1 d_L_law_1119 ?_
            have h := h.2
            refine lv_iload hx hb d_L_law_1120 (lv_at hl 0 rfl) ?_
            refine lv_i2l (v := r1096.toInt64) hx hb d_L_law_1122 rfl ?_
            refine W.lcmp hx hb d_L_law_1123 ?_
            refine lv_if_eq (tgt := 1129) hx hb d_L_law_1124 (by decide) (fun c_1124 => ?_) (fun c_1124 => ?_)
            · have h := h.1 c_1124
              refine lv_goto (tgt := 1529) hx hb d_L_law_1129 (by decide) ?_
              refine lv_iinc (v := x4 + (5 : Int32)) (lv' := [(4, .int (x4 + (5 : Int32))), (6, .int r1096), (5, .int r1084), (0, .ref b), (1, .ref a0), (2, .ref b0), (3, .ref aL)]) hx hb d_L_law_1529 hl (k := 6) rfl rfl (by decide) rfl (fun ls hl => ?_)
              refine lv_goto (tgt := 43) hx hb d_L_law_1532 (by decide) ?_
              refine W.widen (k := 20 + 8 * (513 - n)) (n := 286816 + 48 * (513 - n)) (by omega) (by omega) ?_
              exact ih (by omega) (x4 + (5 : Int32)) R f us P S sc li rc rn ro rd st mcd_1096 mwd men mR mI mC mY mZ mF mmd mhi mL mN mfr mX mT mct mtk ot_1084 H locs ls hP hD hS (lv_sub hl [3, 4, 5, 6, 0] rfl) h
            · have h := h.2 c_1124
              refine lv_iconst (v := (0 : Int32)) hx hb d_L_law_1127 (by decide) ?_
              exact h.elim
        · have h := h.2 c_1107
          refine lv_iconst (v := (0 : Int32)) hx hb d_L_law_1110 (by decide) ?_
          exact h.elim
      · refine lv_tableIn (tgt := 1132) hx hb d_L_law_59 (by decide) (by decide) rfl (by decide) ?_
        have h := h.2.2.2.2.2.2.2.2.2.2.2.2.2.2.2.1 rfl
        refine lv_aload_n hx hb d_L_law_1132 rfl (lv_at hl 1 rfl) ?_
        refine lv_aload_n hx hb d_L_law_1133 rfl (lv_at hl 0 rfl) ?_
        refine lv_iload hx hb d_L_law_1134 (lv_at hl 4 rfl) ?_
        refine lv_iconst (v := (1 : Int32)) hx hb d_L_law_1136 (by decide) ?_
        refine lv_iadd hx hb d_L_law_1137 ?_
        refine va_sld hx hb hX hbl hbA hS h.1 d_L_law_1138 ?_
        have h := h.2
        refine lv_aload_n hx hb d_L_law_1139 rfl (lv_at hl 3 rfl) ?_
        have hPc := hP.sub (ws' := LHw cA a0 aR aM aW aP aS aC aO nW nE cL aL R f us P S sc li rc rn ro rd st ot) [0, 1, 2, 3, 4, 5, 6, 7, 19] rfl
        have hKc := hK.sub (tys' := [(cA, .int), (cL, .long)]) [0, 3] rfl
        have hDc := hD.sub (ws' := LHw cA a0 aR aM aW aP aS aC aO nW nE cL aL R f us P S sc li rc rn ro rd st ot) [0, 1, 2, 3, 4, 5, 6, 7, 19] (by decide) rfl
        have hFc := va_free (wc := LHw cA a0 aR aM aW aP aS aC aO nW nE cL aL R f us P S sc li rc rn ro rd st ot) hD hS hA [0, 1, 2, 3, 4, 5, 6, 7, 19] rfl
        refine va_calli (vx_runSW (As := [.ref a0, .int (xs (x4 + (1 : Int32)).toNatClampNeg), .ref aL]) (rest := []) ⟨hx, hb, hml, hown, hw⟩ (mL_size l hlT sa dC dI cA a0 aR aM aW aP aS aC aO nW nE cL aL H.size R f us P S sc li rc rn ro rd st ot (xs (x4 + (1 : Int32)).toNatClampNeg) _ h) (vx_cwSW 3 hw g_L_159 rfl rfl rfl (by decide +kernel) ⟨Nat.le_of_ble_eq_true rfl, Nat.le_of_ble_eq_true rfl⟩) (xh_PS hKc hPc hDc (xt_at hXT hS) hFc hNC) rfl rfl hl.1 rfl (lv_room (Nat.le_of_ble_eq_true rfl)) d_L_law_1140 ⟨by show 20 + 8 * (513 - (n + 1)) + 1 ≤ 601024; omega, by show 286816 + 48 * (513 - (n + 1)) + 6 ≤ 7293000; omega⟩) hS (fun q _ h => hFc q h) hFc (fun r1140 u t H1 locs ht hvm h hB hz1 hk1 hS => ?_)
        obtain ⟨ot_1140, rfl⟩ : ∃ z, z = u := ⟨_, rfl⟩
        obtain ⟨hP1, hK1, hD1⟩ := hB
        rw [ht] at hP1
        obtain ⟨hP, hD⟩ := va_join (wr := [(b0, .inr (2, [.int mcd, .int mwd, .int men, .ref bR, .ref bI, .ref bC, .ref bY, .ref bZ, .ref bF, .int mmd, .int mhi, .ref bL, .ref bN, .int mfr, .ref bX, .ref bT, .int mct, .int mtk])), (bR, .inl (cI, 32, .inl mR)), (bI, .inl (cI, 8192, .inl mI)), (bC, .inl (cI, 8192, .inl mC)), (bY, .inl (cZ, 8192, .inl mY)), (bZ, .inl (cI, 8192, .inl mZ)), (bF, .inl (cI, 8192, .inl mF)), (bL, .inl (cI, 65536, .inl mL)), (bN, .inl (cI, 65536, .inl mN)), (bX, .inl (cZ, 8192, .inl mX)), (bT, .inl (cI, 8192, .inl mT))]) (w1 := LHw cA a0 aR aM aW aP aS aC aO nW nE cL aL R f us P S sc li rc rn ro rd st ot_1140) hP hD [0, 1, 2, 3, 4, 5, 6, 7, 19] [8, 9, 10, 11, 12, 13, 14, 15, 16, 17, 18] rfl rfl (by decide) (by decide) hk1 hFc hP1 hD1
        have hP := hP.sub (ws' := LMw cA a0 aR aM aW aP aS aC aO nW nE cI cZ b0 bR bI bC bY bZ bF bL bN bX bT cL aL R f us P S sc li rc rn ro rd st mcd mwd men mR mI mC mY mZ mF mmd mhi mL mN mfr mX mT mct mtk ot_1140) [11, 12, 13, 14, 15, 16, 17, 18, 0, 1, 2, 3, 4, 5, 6, 7, 8, 9, 10, 19] rfl
        have hD := hD.sub (ws' := LMw cA a0 aR aM aW aP aS aC aO nW nE cI cZ b0 bR bI bC bY bZ bF bL bN bX bT cL aL R f us P S sc li rc rn ro rd st mcd mwd men mR mI mC mY mZ mF mmd mhi mL mN mfr mX mT mct mtk ot_1140) [11, 12, 13, 14, 15, 16, 17, 18, 0, 1, 2, 3, 4, 5, 6, 7, 8, 9, 10, 19] (by decide) rfl
        generalize H1 = H at hP hS ⊢
        clear hPc hDc hKc hFc hP1 hD1 hK1 hk1
        try dsimp only at h
        refine lv_istore (lv' := [(5, .int r1140), (0, .ref b), (1, .ref a0), (2, .ref b0), (3, .ref aL), (4, .int x4)]) hx hb d_L_law_1143 hl (by decide) rfl (fun ls hl => ?_)
        refine lv_aload_n hx hb d_L_law_1145 rfl (lv_at hl 3 rfl) ?_
        refine lv_aload_n hx hb d_L_law_1146 rfl (lv_at hl 1 rfl) ?_
        refine lv_iload hx hb d_L_law_1147 (lv_at hl 5 rfl) ?_
        refine lv_iconst (v := (1 : Int32)) hx hb d_L_law_1149 (by decide) ?_
        refine lv_iadd hx hb d_L_law_1150 ?_
        refine va_sld hx hb hX hbl hbA hS h.1 d_L_law_1151 ?_
        have h := h.2
        have hPc := hP.sub (ws' := RSw cI cZ b0 bR bI bC bY bZ bF bL bN bX bT mcd mwd men mR mI mC mY mZ mF mmd mhi mL mN mfr mX mT mct mtk) [8, 9, 10, 11, 12, 13, 14, 15, 16, 17, 18] rfl
        have hKc := hK.sub (tys' := [(cI, .int), (cZ, .boolean)]) [1, 2] rfl
        have hDc := hD.sub (ws' := RSw cI cZ b0 bR bI bC bY bZ bF bL bN bX bT mcd mwd men mR mI mC mY mZ mF mmd mhi mL mN mfr mX mT mct mtk) [8, 9, 10, 11, 12, 13, 14, 15, 16, 17, 18] (by decide) rfl
        have hFc := va_free (wc := RSw cI cZ b0 bR bI bC bY bZ bF bL bN bX bT mcd mwd men mR mI mC mY mZ mF mmd mhi mL mN mfr mX mT mct mtk) hD hS hA [8, 9, 10, 11, 12, 13, 14, 15, 16, 17, 18] rfl
        refine va_calli (va_runV (As := [.int (xs (x4 + (1 : Int32)).toNatClampNeg)]) (rest := []) ⟨hx, hb, hml, hown, hw⟩ (mR_size l dC dI cI cZ b0 bR bI bC bY bZ bF bL bN bX bT H.size mcd mwd men mR mI mC mY mZ mF mmd mhi mL mN mfr mX mT mct mtk (xs (x4 + (1 : Int32)).toNatClampNeg) _ h) (cwV 1 hw g_L_161 rfl rfl rfl (by decide +kernel) ⟨Nat.le_of_ble_eq_true rfl, Nat.le_of_ble_eq_true rfl⟩) (rw_PV (ci := 2) (q0 := 0) hKc hPc hDc rfl rfl) rfl rfl hl.1 rfl (lv_room (Nat.le_of_ble_eq_true rfl)) d_L_law_1152 ⟨by show 20 + 8 * (513 - (n + 1)) + 1 + 0 ≤ 601024; omega, by show 286816 + 48 * (513 - (n + 1)) + 6 + 0 ≤ 7293000; omega⟩) hS (fun q _ h => hFc q h) hFc (fun r1152 u t H1 locs ht hvm h hB hz1 hk1 hS => ?_)
        obtain ⟨mcd_1152, rfl⟩ : ∃ z, z = u := ⟨_, rfl⟩
        obtain ⟨hP1, hK1, hD1⟩ := hB
        rw [ht] at hP1
        obtain ⟨hP, hD⟩ := va_join (wr := [(a0, .inr (0, [.ref aR, .ref aM])), (aR, .inl (cA, 32, .inl R)), (aM, .inr (1, [.ref aW, .int us, .ref aP, .ref aS, .int sc, .int li, .ref aC, .int rn, .ref aO, .int rd, .int st])), (aW, .inl (cA, nW, .inl f)), (aP, .inl (cA, nE, .inl P)), (aS, .inl (cA, nE, .inl S)), (aC, .inl (cA, nE, .inl rc)), (aO, .inl (cA, nE, .inl ro)), (aL, .inl (cL, 1, .inr (.inl ot_1140)))]) (w1 := RSw cI cZ b0 bR bI bC bY bZ bF bL bN bX bT mcd_1152 mwd men mR mI mC mY mZ mF mmd mhi mL mN mfr mX mT mct mtk) hP hD [8, 9, 10, 11, 12, 13, 14, 15, 16, 17, 18] [0, 1, 2, 3, 4, 5, 6, 7, 19] rfl rfl (by decide) (by decide) hk1 hFc hP1 hD1
        have hP := hP.sub (ws' := LMw cA a0 aR aM aW aP aS aC aO nW nE cI cZ b0 bR bI bC bY bZ bF bL bN bX bT cL aL R f us P S sc li rc rn ro rd st mcd_1152 mwd men mR mI mC mY mZ mF mmd mhi mL mN mfr mX mT mct mtk ot_1140) [0, 1, 2, 3, 4, 5, 6, 7, 9, 10, 11, 12, 13, 14, 15, 16, 17, 18, 19, 8] rfl
        have hD := hD.sub (ws' := LMw cA a0 aR aM aW aP aS aC aO nW nE cI cZ b0 bR bI bC bY bZ bF bL bN bX bT cL aL R f us P S sc li rc rn ro rd st mcd_1152 mwd men mR mI mC mY mZ mF mmd mhi mL mN mfr mX mT mct mtk ot_1140) [0, 1, 2, 3, 4, 5, 6, 7, 9, 10, 11, 12, 13, 14, 15, 16, 17, 18, 19, 8] (by decide) rfl
        generalize H1 = H at hP hS ⊢
        clear hPc hDc hKc hFc hP1 hD1 hK1 hk1
        try dsimp only at h
        refine lv_istore (lv' := [(6, .int r1152), (5, .int r1140), (0, .ref b), (1, .ref a0), (2, .ref b0), (3, .ref aL), (4, .int x4)]) hx hb d_L_law_1155 hl (by decide) rfl (fun ls hl => ?_)
        refine lv_aload_n hx hb d_L_law_1157 rfl (lv_at hl 4 rfl) ?_
        have hPc := hP.sub (ws' := RSw cI cZ b0 bR bI bC bY bZ bF bL bN bX bT mcd_1152 mwd men mR mI mC mY mZ mF mmd mhi mL mN mfr mX mT mct mtk) [8, 9, 10, 11, 12, 13, 14, 15, 16, 17, 18] rfl
        have hKc := hK.sub (tys' := [(cI, .int), (cZ, .boolean)]) [1, 2] rfl
        refine rq_calli (W.runV (As := []) (rest := []) ⟨hx, hb, hml, hown, hw⟩ (mR_thrown l dC dI cI cZ b0 bR bI bC bY bZ bF bL bN bX bT mcd_1152 mwd men mR mI mC mY mZ mF mmd mhi mL mN mfr mX mT mct mtk _ h) (cwV 0 hw g_L_103 rfl rfl rfl (by decide +kernel) ⟨Nat.le_of_ble_eq_true rfl, Nat.le_of_ble_eq_true rfl⟩) (ro_PV (ci := 2) (q0 := 0) hKc hPc rfl rfl) rfl rfl hl.1 rfl (lv_room (Nat.le_of_ble_eq_true rfl)) d_L_law_1158 ⟨by show 20 + 8 * (513 - (n + 1)) + 1 + 0 + 0 ≤ 601024; omega, by show 286816 + 48 * (513 - (n + 1)) + 6 + 0 + 0 ≤ 7293000; omega⟩) (fun r1158 h => ?_)
        clear hPc hKc
        refine lv_iload hx hb d_L_law_1161 (lv_at hl 1 rfl) ?_
        refine lv_icmp_eq (tgt := 1168) hx hb d_L_law_1163 (by decide) (fun c_1163 => ?_) (fun c_1163 => ?_)
        · have h := h.1 c_1163
          refine lv_iload hx hb d_L_law_1168 (lv_at hl 1 rfl) ?_
          refine lv_if_ne (tgt := 1185) hx hb d_L_law_1170 (by decide) (fun c_1170 => ?_) (fun c_1170 => ?_)
          · have h := h.2 c_1170
            refine lv_goto (tgt := 1529) hx hb d_L_law_1185 (by decide) ?_
            refine lv_iinc (v := x4 + (5 : Int32)) (lv' := [(4, .int (x4 + (5 : Int32))), (6, .int r1152), (5, .int r1140), (0, .ref b), (1, .ref a0), (2, .ref b0), (3, .ref aL)]) hx hb d_L_law_1529 hl (k := 6) rfl rfl (by decide) rfl (fun ls hl => ?_)
            refine lv_goto (tgt := 43) hx hb d_L_law_1532 (by decide) ?_
            refine W.widen (k := 20 + 8 * (513 - n)) (n := 286816 + 48 * (513 - n)) (by omega) (by omega) ?_
            exact ih (by omega) (x4 + (5 : Int32)) R f us P S sc li rc rn ro rd st mcd_1152 mwd men mR mI mC mY mZ mF mmd mhi mL mN mfr mX mT mct mtk ot_1140 H locs ls hP hD hS (lv_sub hl [3, 4, 5, 6, 0] rfl) h
          · have h := h.1 c_1170
            refine lv_aload_n hx hb d_L_law_1173 rfl (lv_at hl 5 rfl) ?_
            refine lv_iconst (v := (0 : Int32)) hx hb d_L_law_1174 (by decide) ?_
            refine va_lald hx hb hK hP 19 3 rfl rfl h.1 d_L_law_1175 ?_
            have h := h.2
            refine lv_iload hx hb d_L_law_1176 (lv_at hl 0 rfl) ?_
            refine lv_i2l (v := r1152.toInt64) hx hb d_L_law_1178 rfl ?_
            refine W.lcmp hx hb d_L_law_1179 ?_
            refine lv_if_eq (tgt := 1185) hx hb d_L_law_1180 (by decide) (fun c_1180 => ?_) (fun c_1180 => ?_)
            · have h := h.1 c_1180
              refine lv_goto (tgt := 1529) hx hb d_L_law_1185 (by decide) ?_
              refine lv_iinc (v := x4 + (5 : Int32)) (lv' := [(4, .int (x4 + (5 : Int32))), (6, .int r1152), (5, .int r1140), (0, .ref b), (1, .ref a0), (2, .ref b0), (3, .ref aL)]) hx hb d_L_law_1529 hl (k := 6) rfl rfl (by decide) rfl (fun ls hl => ?_)
              refine lv_goto (tgt := 43) hx hb d_L_law_1532 (by decide) ?_
              refine W.widen (k := 20 + 8 * (513 - n)) (n := 286816 + 48 * (513 - n)) (by omega) (by omega) ?_
              exact ih (by omega) (x4 + (5 : Int32)) R f us P S sc li rc rn ro rd st mcd_1152 mwd men mR mI mC mY mZ mF mmd mhi mL mN mfr mX mT mct mtk ot_1140 H locs ls hP hD hS (lv_sub hl [3, 4, 5, 6, 0] rfl) h
            · have h := h.2 c_1180
              refine lv_iconst (v := (0 : Int32)) hx hb d_L_law_1183 (by decide) ?_
              exact h.elim
        · have h := h.2 c_1163
          refine lv_iconst (v := (0 : Int32)) hx hb d_L_law_1166 (by decide) ?_
          exact h.elim
      · refine lv_tableIn (tgt := 1188) hx hb d_L_law_59 (by decide) (by decide) rfl (by decide) ?_
        have h := h.2.2.2.2.2.2.2.2.2.2.2.2.2.2.2.2.1 rfl
        refine lv_aload_n hx hb d_L_law_1188 rfl (lv_at hl 1 rfl) ?_
        refine lv_aload_n hx hb d_L_law_1189 rfl (lv_at hl 0 rfl) ?_
        refine lv_iload hx hb d_L_law_1190 (lv_at hl 4 rfl) ?_
        refine lv_iconst (v := (1 : Int32)) hx hb d_L_law_1192 (by decide) ?_
        refine lv_iadd hx hb d_L_law_1193 ?_
        refine va_sld hx hb hX hbl hbA hS h.1 d_L_law_1194 ?_
        have h := h.2
        refine lv_aload_n hx hb d_L_law_1195 rfl (lv_at hl 0 rfl) ?_
        refine lv_iload hx hb d_L_law_1196 (lv_at hl 4 rfl) ?_
        refine lv_iconst (v := (2 : Int32)) hx hb d_L_law_1198 (by decide) ?_
        refine lv_iadd hx hb d_L_law_1199 ?_
        refine va_sld hx hb hX hbl hbA hS h.1 d_L_law_1200 ?_
        have h := h.2
        have hPc := hP.sub (ws' := LHw cA a0 aR aM aW aP aS aC aO nW nE cL aL R f us P S sc li rc rn ro rd st ot) [0, 1, 2, 3, 4, 5, 6, 7, 19] rfl
        have hKc := hK.sub (tys' := [(cA, .int), (cL, .long)]) [0, 3] rfl
        have hDc := hD.sub (ws' := LHw cA a0 aR aM aW aP aS aC aO nW nE cL aL R f us P S sc li rc rn ro rd st ot) [0, 1, 2, 3, 4, 5, 6, 7, 19] (by decide) rfl
        have hFc := va_free (wc := LHw cA a0 aR aM aW aP aS aC aO nW nE cL aL R f us P S sc li rc rn ro rd st ot) hD hS hA [0, 1, 2, 3, 4, 5, 6, 7, 19] rfl
        refine va_calli (vx_runSW (As := [.ref a0, .int (xs (x4 + (1 : Int32)).toNatClampNeg), .int (xs (x4 + (2 : Int32)).toNatClampNeg)]) (rest := []) ⟨hx, hb, hml, hown, hw⟩ (mL_become l hlT sa dC dI cA a0 aR aM aW aP aS aC aO nW nE cL aL H.size R f us P S sc li rc rn ro rd st ot (xs (x4 + (1 : Int32)).toNatClampNeg) (xs (x4 + (2 : Int32)).toNatClampNeg) _ h) (vx_cwSW 3 hw g_L_162 rfl rfl rfl (by decide +kernel) ⟨Nat.le_of_ble_eq_true rfl, Nat.le_of_ble_eq_true rfl⟩) (xh_PS hKc hPc hDc (xt_at hXT hS) hFc hNC) rfl rfl hl.1 rfl (lv_room (Nat.le_of_ble_eq_true rfl)) d_L_law_1201 ⟨by show 20 + 8 * (513 - (n + 1)) + 4 ≤ 601024; omega, by show 286816 + 48 * (513 - (n + 1)) + 24 ≤ 7293000; omega⟩) hS (fun q _ h => hFc q h) hFc (fun r1201 u t H1 locs ht hvm h hB hz1 hk1 hS => ?_)
        obtain ⟨f_1201, P_1201⟩ := u
        obtain ⟨hP1, hK1, hD1⟩ := hB
        rw [ht] at hP1
        obtain ⟨hP, hD⟩ := va_join (wr := [(b0, .inr (2, [.int mcd, .int mwd, .int men, .ref bR, .ref bI, .ref bC, .ref bY, .ref bZ, .ref bF, .int mmd, .int mhi, .ref bL, .ref bN, .int mfr, .ref bX, .ref bT, .int mct, .int mtk])), (bR, .inl (cI, 32, .inl mR)), (bI, .inl (cI, 8192, .inl mI)), (bC, .inl (cI, 8192, .inl mC)), (bY, .inl (cZ, 8192, .inl mY)), (bZ, .inl (cI, 8192, .inl mZ)), (bF, .inl (cI, 8192, .inl mF)), (bL, .inl (cI, 65536, .inl mL)), (bN, .inl (cI, 65536, .inl mN)), (bX, .inl (cZ, 8192, .inl mX)), (bT, .inl (cI, 8192, .inl mT))]) (w1 := LHw cA a0 aR aM aW aP aS aC aO nW nE cL aL R f_1201 us P_1201 S sc li rc rn ro rd st ot) hP hD [0, 1, 2, 3, 4, 5, 6, 7, 19] [8, 9, 10, 11, 12, 13, 14, 15, 16, 17, 18] rfl rfl (by decide) (by decide) hk1 hFc hP1 hD1
        have hP := hP.sub (ws' := LMw cA a0 aR aM aW aP aS aC aO nW nE cI cZ b0 bR bI bC bY bZ bF bL bN bX bT cL aL R f_1201 us P_1201 S sc li rc rn ro rd st mcd mwd men mR mI mC mY mZ mF mmd mhi mL mN mfr mX mT mct mtk ot) [11, 12, 13, 14, 15, 16, 17, 18, 0, 1, 2, 3, 4, 5, 6, 7, 8, 9, 10, 19] rfl
        have hD := hD.sub (ws' := LMw cA a0 aR aM aW aP aS aC aO nW nE cI cZ b0 bR bI bC bY bZ bF bL bN bX bT cL aL R f_1201 us P_1201 S sc li rc rn ro rd st mcd mwd men mR mI mC mY mZ mF mmd mhi mL mN mfr mX mT mct mtk ot) [11, 12, 13, 14, 15, 16, 17, 18, 0, 1, 2, 3, 4, 5, 6, 7, 8, 9, 10, 19] (by decide) rfl
        generalize H1 = H at hP hS ⊢
        clear hPc hDc hKc hFc hP1 hD1 hK1 hk1
        try dsimp only at h
        refine lv_istore (lv' := [(5, .int r1201), (0, .ref b), (1, .ref a0), (2, .ref b0), (3, .ref aL), (4, .int x4)]) hx hb d_L_law_1204 hl (by decide) rfl (fun ls hl => ?_)
        refine lv_aload_n hx hb d_L_law_1206 rfl (lv_at hl 3 rfl) ?_
        refine lv_aload_n hx hb d_L_law_1207 rfl (lv_at hl 1 rfl) ?_
        refine lv_iload hx hb d_L_law_1208 (lv_at hl 5 rfl) ?_
        refine lv_iconst (v := (1 : Int32)) hx hb d_L_law_1210 (by decide) ?_
        refine lv_iadd hx hb d_L_law_1211 ?_
        refine va_sld hx hb hX hbl hbA hS h.1 d_L_law_1212 ?_
        have h := h.2
        refine lv_aload_n hx hb d_L_law_1213 rfl (lv_at hl 1 rfl) ?_
        refine lv_iload hx hb d_L_law_1214 (lv_at hl 5 rfl) ?_
        refine lv_iconst (v := (2 : Int32)) hx hb d_L_law_1216 (by decide) ?_
        refine lv_iadd hx hb d_L_law_1217 ?_
        refine va_sld hx hb hX hbl hbA hS h.1 d_L_law_1218 ?_
        have h := h.2
        have hPc := hP.sub (ws' := RSw cI cZ b0 bR bI bC bY bZ bF bL bN bX bT mcd mwd men mR mI mC mY mZ mF mmd mhi mL mN mfr mX mT mct mtk) [8, 9, 10, 11, 12, 13, 14, 15, 16, 17, 18] rfl
        have hKc := hK.sub (tys' := [(cI, .int), (cZ, .boolean)]) [1, 2] rfl
        have hDc := hD.sub (ws' := RSw cI cZ b0 bR bI bC bY bZ bF bL bN bX bT mcd mwd men mR mI mC mY mZ mF mmd mhi mL mN mfr mX mT mct mtk) [8, 9, 10, 11, 12, 13, 14, 15, 16, 17, 18] (by decide) rfl
        have hFc := va_free (wc := RSw cI cZ b0 bR bI bC bY bZ bF bL bN bX bT mcd mwd men mR mI mC mY mZ mF mmd mhi mL mN mfr mX mT mct mtk) hD hS hA [8, 9, 10, 11, 12, 13, 14, 15, 16, 17, 18] rfl
        refine va_callv (va_runV (As := [.int (xs (x4 + (1 : Int32)).toNatClampNeg), .int (xs (x4 + (2 : Int32)).toNatClampNeg)]) (rest := []) ⟨hx, hb, hml, hown, hw⟩ (mR_become l dC dI cI cZ b0 bR bI bC bY bZ bF bL bN bX bT H.size mcd mwd men mR mI mC mY mZ mF mmd mhi mL mN mfr mX mT mct mtk (xs (x4 + (1 : Int32)).toNatClampNeg) (xs (x4 + (2 : Int32)).toNatClampNeg) _ h) (cwV 2 hw g_L_164 rfl rfl rfl (by decide +kernel) ⟨Nat.le_of_ble_eq_true rfl, Nat.le_of_ble_eq_true rfl⟩) (rw_PV (ci := 2) (q0 := 0) hKc hPc hDc rfl rfl) rfl rfl hl.1 rfl (lv_room (Nat.le_of_ble_eq_true rfl)) d_L_law_1219 ⟨by show 20 + 8 * (513 - (n + 1)) + 4 + 0 ≤ 601024; omega, by show 286816 + 48 * (513 - (n + 1)) + 24 + 0 ≤ 7293000; omega⟩) hS (fun q _ h => hFc q h) hFc (fun u t H1 locs ht hvm h hB hz1 hk1 hS => ?_)
        obtain ⟨mcd_1219, mI_1219, mC_1219, mY_1219, mZ_1219, mF_1219⟩ := u
        obtain ⟨hP1, hK1, hD1⟩ := hB
        rw [ht] at hP1
        obtain ⟨hP, hD⟩ := va_join (wr := [(a0, .inr (0, [.ref aR, .ref aM])), (aR, .inl (cA, 32, .inl R)), (aM, .inr (1, [.ref aW, .int us, .ref aP, .ref aS, .int sc, .int li, .ref aC, .int rn, .ref aO, .int rd, .int st])), (aW, .inl (cA, nW, .inl f_1201)), (aP, .inl (cA, nE, .inl P_1201)), (aS, .inl (cA, nE, .inl S)), (aC, .inl (cA, nE, .inl rc)), (aO, .inl (cA, nE, .inl ro)), (aL, .inl (cL, 1, .inr (.inl ot)))]) (w1 := RSw cI cZ b0 bR bI bC bY bZ bF bL bN bX bT mcd_1219 mwd men mR mI_1219 mC_1219 mY_1219 mZ_1219 mF_1219 mmd mhi mL mN mfr mX mT mct mtk) hP hD [8, 9, 10, 11, 12, 13, 14, 15, 16, 17, 18] [0, 1, 2, 3, 4, 5, 6, 7, 19] rfl rfl (by decide) (by decide) hk1 hFc hP1 hD1
        have hP := hP.sub (ws' := LMw cA a0 aR aM aW aP aS aC aO nW nE cI cZ b0 bR bI bC bY bZ bF bL bN bX bT cL aL R f_1201 us P_1201 S sc li rc rn ro rd st mcd_1219 mwd men mR mI_1219 mC_1219 mY_1219 mZ_1219 mF_1219 mmd mhi mL mN mfr mX mT mct mtk ot) [0, 1, 2, 3, 4, 5, 6, 7, 9, 10, 11, 12, 13, 14, 15, 16, 17, 18, 19, 8] rfl
        have hD := hD.sub (ws' := LMw cA a0 aR aM aW aP aS aC aO nW nE cI cZ b0 bR bI bC bY bZ bF bL bN bX bT cL aL R f_1201 us P_1201 S sc li rc rn ro rd st mcd_1219 mwd men mR mI_1219 mC_1219 mY_1219 mZ_1219 mF_1219 mmd mhi mL mN mfr mX mT mct mtk ot) [0, 1, 2, 3, 4, 5, 6, 7, 9, 10, 11, 12, 13, 14, 15, 16, 17, 18, 19, 8] (by decide) rfl
        generalize H1 = H at hP hS ⊢
        clear hPc hDc hKc hFc hP1 hD1 hK1 hk1
        try dsimp only at h
        refine lv_aload_n hx hb d_L_law_1222 rfl (lv_at hl 3 rfl) ?_
        have hPc := hP.sub (ws' := RSw cI cZ b0 bR bI bC bY bZ bF bL bN bX bT mcd_1219 mwd men mR mI_1219 mC_1219 mY_1219 mZ_1219 mF_1219 mmd mhi mL mN mfr mX mT mct mtk) [8, 9, 10, 11, 12, 13, 14, 15, 16, 17, 18] rfl
        have hKc := hK.sub (tys' := [(cI, .int), (cZ, .boolean)]) [1, 2] rfl
        refine rq_calli (W.runV (As := []) (rest := []) ⟨hx, hb, hml, hown, hw⟩ (mR_thrown l dC dI cI cZ b0 bR bI bC bY bZ bF bL bN bX bT mcd_1219 mwd men mR mI_1219 mC_1219 mY_1219 mZ_1219 mF_1219 mmd mhi mL mN mfr mX mT mct mtk _ h) (cwV 0 hw g_L_103 rfl rfl rfl (by decide +kernel) ⟨Nat.le_of_ble_eq_true rfl, Nat.le_of_ble_eq_true rfl⟩) (ro_PV (ci := 2) (q0 := 0) hKc hPc rfl rfl) rfl rfl hl.1 rfl (lv_room (Nat.le_of_ble_eq_true rfl)) d_L_law_1223 ⟨by show 20 + 8 * (513 - (n + 1)) + 4 + 0 + 0 ≤ 601024; omega, by show 286816 + 48 * (513 - (n + 1)) + 24 + 0 + 0 ≤ 7293000; omega⟩) (fun r1223 h => ?_)
        clear hPc hKc
        refine lv_iload hx hb d_L_law_1226 (lv_at hl 0 rfl) ?_
        refine lv_icmp_eq (tgt := 1233) hx hb d_L_law_1228 (by decide) (fun c_1228 => ?_) (fun c_1228 => ?_)
        · have h := h.1 c_1228
          refine lv_goto (tgt := 1529) hx hb d_L_law_1233 (by decide) ?_
          refine lv_iinc (v := x4 + (5 : Int32)) (lv' := [(4, .int (x4 + (5 : Int32))), (5, .int r1201), (0, .ref b), (1, .ref a0), (2, .ref b0), (3, .ref aL)]) hx hb d_L_law_1529 hl (k := 5) rfl rfl (by decide) rfl (fun ls hl => ?_)
          refine lv_goto (tgt := 43) hx hb d_L_law_1532 (by decide) ?_
          refine W.widen (k := 20 + 8 * (513 - n)) (n := 286816 + 48 * (513 - n)) (by omega) (by omega) ?_
          exact ih (by omega) (x4 + (5 : Int32)) R f_1201 us P_1201 S sc li rc rn ro rd st mcd_1219 mwd men mR mI_1219 mC_1219 mY_1219 mZ_1219 mF_1219 mmd mhi mL mN mfr mX mT mct mtk ot H locs ls hP hD hS (lv_sub hl [2, 3, 4, 5, 0] rfl) h
        · have h := h.2 c_1228
          refine lv_iconst (v := (0 : Int32)) hx hb d_L_law_1231 (by decide) ?_
          exact h.elim
      · refine lv_tableIn (tgt := 1236) hx hb d_L_law_59 (by decide) (by decide) rfl (by decide) ?_
        have h := h.2.2.2.2.2.2.2.2.2.2.2.2.2.2.2.2.2.1 rfl
        refine lv_aload_n hx hb d_L_law_1236 rfl (lv_at hl 1 rfl) ?_
        have hPc := hP.sub (ws' := TSw cA a0 aR aM aW aP aS aC aO nW nE R f us P S sc li rc rn ro rd st) [0, 1, 2, 3, 4, 5, 6, 7] rfl
        have hKc := hK.sub (tys' := [(cA, .int)]) [0] rfl
        have hDc := hD.sub (ws' := TSw cA a0 aR aM aW aP aS aC aO nW nE R f us P S sc li rc rn ro rd st) [0, 1, 2, 3, 4, 5, 6, 7] (by decide) rfl
        have hFc := va_free (wc := TSw cA a0 aR aM aW aP aS aC aO nW nE R f us P S sc li rc rn ro rd st) hD hS hA [0, 1, 2, 3, 4, 5, 6, 7] rfl
        refine va_calli (va_runV (As := []) (rest := []) ⟨hx, hb, hml, hown, hw⟩ (mT_words l dC dI cA a0 aR aM aW aP aS aC aO nW nE H.size R f us P S sc li rc rn ro rd st _ h) (cwV 0 hw g_L_165 rfl rfl rfl (by decide +kernel) ⟨Nat.le_of_ble_eq_true rfl, Nat.le_of_ble_eq_true rfl⟩) (rw_PV (ci := 0) (q0 := 0) hKc hPc hDc rfl rfl) rfl rfl hl.1 rfl (lv_room (Nat.le_of_ble_eq_true rfl)) d_L_law_1237 ⟨by show 20 + 8 * (513 - (n + 1)) + 0 ≤ 601024; omega, by show 286816 + 48 * (513 - (n + 1)) + 0 ≤ 7293000; omega⟩) hS (fun q _ h => hFc q h) hFc (fun r1237 u t H1 locs ht hvm h hB hz1 hk1 hS => ?_)
        obtain ⟨f_1237, us_1237, P_1237, S_1237, sc_1237, rc_1237, rn_1237, ro_1237, rd_1237, st_1237⟩ := u
        obtain ⟨hP1, hK1, hD1⟩ := hB
        rw [ht] at hP1
        obtain ⟨hP, hD⟩ := va_join (wr := [(b0, .inr (2, [.int mcd, .int mwd, .int men, .ref bR, .ref bI, .ref bC, .ref bY, .ref bZ, .ref bF, .int mmd, .int mhi, .ref bL, .ref bN, .int mfr, .ref bX, .ref bT, .int mct, .int mtk])), (bR, .inl (cI, 32, .inl mR)), (bI, .inl (cI, 8192, .inl mI)), (bC, .inl (cI, 8192, .inl mC)), (bY, .inl (cZ, 8192, .inl mY)), (bZ, .inl (cI, 8192, .inl mZ)), (bF, .inl (cI, 8192, .inl mF)), (bL, .inl (cI, 65536, .inl mL)), (bN, .inl (cI, 65536, .inl mN)), (bX, .inl (cZ, 8192, .inl mX)), (bT, .inl (cI, 8192, .inl mT)), (aL, .inl (cL, 1, .inr (.inl ot)))]) (w1 := TSw cA a0 aR aM aW aP aS aC aO nW nE R f_1237 us_1237 P_1237 S_1237 sc_1237 li rc_1237 rn_1237 ro_1237 rd_1237 st_1237) hP hD [0, 1, 2, 3, 4, 5, 6, 7] [8, 9, 10, 11, 12, 13, 14, 15, 16, 17, 18, 19] rfl rfl (by decide) (by decide) hk1 hFc hP1 hD1
        have hP := hP.sub (ws' := LMw cA a0 aR aM aW aP aS aC aO nW nE cI cZ b0 bR bI bC bY bZ bF bL bN bX bT cL aL R f_1237 us_1237 P_1237 S_1237 sc_1237 li rc_1237 rn_1237 ro_1237 rd_1237 st_1237 mcd mwd men mR mI mC mY mZ mF mmd mhi mL mN mfr mX mT mct mtk ot) [12, 13, 14, 15, 16, 17, 18, 19, 0, 1, 2, 3, 4, 5, 6, 7, 8, 9, 10, 11] rfl
        have hD := hD.sub (ws' := LMw cA a0 aR aM aW aP aS aC aO nW nE cI cZ b0 bR bI bC bY bZ bF bL bN bX bT cL aL R f_1237 us_1237 P_1237 S_1237 sc_1237 li rc_1237 rn_1237 ro_1237 rd_1237 st_1237 mcd mwd men mR mI mC mY mZ mF mmd mhi mL mN mfr mX mT mct mtk ot) [12, 13, 14, 15, 16, 17, 18, 19, 0, 1, 2, 3, 4, 5, 6, 7, 8, 9, 10, 11] (by decide) rfl
        generalize H1 = H at hP hS ⊢
        clear hPc hDc hKc hFc hP1 hD1 hK1 hk1
        try dsimp only at h
        refine lv_aload_n hx hb d_L_law_1240 rfl (lv_at hl 2 rfl) ?_
        have hPc := hP.sub (ws' := RSw cI cZ b0 bR bI bC bY bZ bF bL bN bX bT mcd mwd men mR mI mC mY mZ mF mmd mhi mL mN mfr mX mT mct mtk) [8, 9, 10, 11, 12, 13, 14, 15, 16, 17, 18] rfl
        have hKc := hK.sub (tys' := [(cI, .int), (cZ, .boolean)]) [1, 2] rfl
        have hDc := hD.sub (ws' := RSw cI cZ b0 bR bI bC bY bZ bF bL bN bX bT mcd mwd men mR mI mC mY mZ mF mmd mhi mL mN mfr mX mT mct mtk) [8, 9, 10, 11, 12, 13, 14, 15, 16, 17, 18] (by decide) rfl
        have hFc := va_free (wc := RSw cI cZ b0 bR bI bC bY bZ bF bL bN bX bT mcd mwd men mR mI mC mY mZ mF mmd mhi mL mN mfr mX mT mct mtk) hD hS hA [8, 9, 10, 11, 12, 13, 14, 15, 16, 17, 18] rfl
        refine va_calli (va_runV (As := []) (rest := [.int r1237]) ⟨hx, hb, hml, hown, hw⟩ (mR_words l dC dI cI cZ b0 bR bI bC bY bZ bF bL bN bX bT H.size mcd mwd men mR mI mC mY mZ mF mmd mhi mL mN mfr mX mT mct mtk _ h) (cwV 0 hw g_L_168 rfl rfl rfl (by decide +kernel) ⟨Nat.le_of_ble_eq_true rfl, Nat.le_of_ble_eq_true rfl⟩) (rw_PV (ci := 2) (q0 := 0) hKc hPc hDc rfl rfl) rfl rfl hl.1 rfl (lv_room (Nat.le_of_ble_eq_true rfl)) d_L_law_1241 ⟨by show 20 + 8 * (513 - (n + 1)) + 0 + 0 ≤ 601024; omega, by show 286816 + 48 * (513 - (n + 1)) + 0 + 0 ≤ 7293000; omega⟩) hS (fun q _ h => hFc q h) hFc (fun r1241 u t H1 locs ht hvm h hB hz1 hk1 hS => ?_)
        obtain ⟨mcd_1241, mX_1241, mT_1241, mct_1241, mtk_1241⟩ := u
        obtain ⟨hP1, hK1, hD1⟩ := hB
        rw [ht] at hP1
        obtain ⟨hP, hD⟩ := va_join (wr := [(a0, .inr (0, [.ref aR, .ref aM])), (aR, .inl (cA, 32, .inl R)), (aM, .inr (1, [.ref aW, .int us_1237, .ref aP, .ref aS, .int sc_1237, .int li, .ref aC, .int rn_1237, .ref aO, .int rd_1237, .int st_1237])), (aW, .inl (cA, nW, .inl f_1237)), (aP, .inl (cA, nE, .inl P_1237)), (aS, .inl (cA, nE, .inl S_1237)), (aC, .inl (cA, nE, .inl rc_1237)), (aO, .inl (cA, nE, .inl ro_1237)), (aL, .inl (cL, 1, .inr (.inl ot)))]) (w1 := RSw cI cZ b0 bR bI bC bY bZ bF bL bN bX bT mcd_1241 mwd men mR mI mC mY mZ mF mmd mhi mL mN mfr mX_1241 mT_1241 mct_1241 mtk_1241) hP hD [8, 9, 10, 11, 12, 13, 14, 15, 16, 17, 18] [0, 1, 2, 3, 4, 5, 6, 7, 19] rfl rfl (by decide) (by decide) hk1 hFc hP1 hD1
        have hP := hP.sub (ws' := LMw cA a0 aR aM aW aP aS aC aO nW nE cI cZ b0 bR bI bC bY bZ bF bL bN bX bT cL aL R f_1237 us_1237 P_1237 S_1237 sc_1237 li rc_1237 rn_1237 ro_1237 rd_1237 st_1237 mcd_1241 mwd men mR mI mC mY mZ mF mmd mhi mL mN mfr mX_1241 mT_1241 mct_1241 mtk_1241 ot) [0, 1, 2, 3, 4, 5, 6, 7, 9, 10, 11, 12, 13, 14, 15, 16, 17, 18, 19, 8] rfl
        have hD := hD.sub (ws' := LMw cA a0 aR aM aW aP aS aC aO nW nE cI cZ b0 bR bI bC bY bZ bF bL bN bX bT cL aL R f_1237 us_1237 P_1237 S_1237 sc_1237 li rc_1237 rn_1237 ro_1237 rd_1237 st_1237 mcd_1241 mwd men mR mI mC mY mZ mF mmd mhi mL mN mfr mX_1241 mT_1241 mct_1241 mtk_1241 ot) [0, 1, 2, 3, 4, 5, 6, 7, 9, 10, 11, 12, 13, 14, 15, 16, 17, 18, 19, 8] (by decide) rfl
        generalize H1 = H at hP hS ⊢
        clear hPc hDc hKc hFc hP1 hD1 hK1 hk1
        try dsimp only at h
        refine lv_icmp_eq (tgt := 1529) hx hb d_L_law_1244 (by decide) (fun c_1244 => ?_) (fun c_1244 => ?_)
        · have h := h.1 c_1244
          refine lv_iinc (v := x4 + (5 : Int32)) (lv' := [(4, .int (x4 + (5 : Int32))), (0, .ref b), (1, .ref a0), (2, .ref b0), (3, .ref aL)]) hx hb d_L_law_1529 hl (k := 4) rfl rfl (by decide) rfl (fun ls hl => ?_)
          refine lv_goto (tgt := 43) hx hb d_L_law_1532 (by decide) ?_
          refine W.widen (k := 20 + 8 * (513 - n)) (n := 286816 + 48 * (513 - n)) (by omega) (by omega) ?_
          exact ih (by omega) (x4 + (5 : Int32)) R f_1237 us_1237 P_1237 S_1237 sc_1237 li rc_1237 rn_1237 ro_1237 rd_1237 st_1237 mcd_1241 mwd men mR mI mC mY mZ mF mmd mhi mL mN mfr mX_1241 mT_1241 mct_1241 mtk_1241 ot H locs ls hP hD hS (lv_sub hl [1, 2, 3, 4, 0] rfl) h
        · have h := h.2 c_1244
          refine lv_iconst (v := (0 : Int32)) hx hb d_L_law_1247 (by decide) ?_
          exact h.elim
      · refine lv_tableIn (tgt := 1249) hx hb d_L_law_59 (by decide) (by decide) rfl (by decide) ?_
        have h := h.2.2.2.2.2.2.2.2.2.2.2.2.2.2.2.2.2.2.1 rfl
        refine lv_aload_n hx hb d_L_law_1249 rfl (lv_at hl 1 rfl) ?_
        have hPc := hP.sub (ws' := TSw cA a0 aR aM aW aP aS aC aO nW nE R f us P S sc li rc rn ro rd st) [0, 1, 2, 3, 4, 5, 6, 7] rfl
        have hKc := hK.sub (tys' := [(cA, .int)]) [0] rfl
        have hDc := hD.sub (ws' := TSw cA a0 aR aM aW aP aS aC aO nW nE R f us P S sc li rc rn ro rd st) [0, 1, 2, 3, 4, 5, 6, 7] (by decide) rfl
        have hFc := va_free (wc := TSw cA a0 aR aM aW aP aS aC aO nW nE R f us P S sc li rc rn ro rd st) hD hS hA [0, 1, 2, 3, 4, 5, 6, 7] rfl
        refine va_calli (va_runV (As := []) (rest := []) ⟨hx, hb, hml, hown, hw⟩ (mT_entries l dC dI cA a0 aR aM aW aP aS aC aO nW nE H.size R f us P S sc li rc rn ro rd st _ h) (cwV 0 hw g_L_169 rfl rfl rfl (by decide +kernel) ⟨Nat.le_of_ble_eq_true rfl, Nat.le_of_ble_eq_true rfl⟩) (rw_PV (ci := 0) (q0 := 0) hKc hPc hDc rfl rfl) rfl rfl hl.1 rfl (lv_room (Nat.le_of_ble_eq_true rfl)) d_L_law_1250 ⟨by show 20 + 8 * (513 - (n + 1)) + 0 ≤ 601024; omega, by show 286816 + 48 * (513 - (n + 1)) + 0 ≤ 7293000; omega⟩) hS (fun q _ h => hFc q h) hFc (fun r1250 u t H1 locs ht hvm h hB hz1 hk1 hS => ?_)
        obtain ⟨f_1250, us_1250, P_1250, S_1250, sc_1250, rc_1250, rn_1250, ro_1250, rd_1250, st_1250⟩ := u
        obtain ⟨hP1, hK1, hD1⟩ := hB
        rw [ht] at hP1
        obtain ⟨hP, hD⟩ := va_join (wr := [(b0, .inr (2, [.int mcd, .int mwd, .int men, .ref bR, .ref bI, .ref bC, .ref bY, .ref bZ, .ref bF, .int mmd, .int mhi, .ref bL, .ref bN, .int mfr, .ref bX, .ref bT, .int mct, .int mtk])), (bR, .inl (cI, 32, .inl mR)), (bI, .inl (cI, 8192, .inl mI)), (bC, .inl (cI, 8192, .inl mC)), (bY, .inl (cZ, 8192, .inl mY)), (bZ, .inl (cI, 8192, .inl mZ)), (bF, .inl (cI, 8192, .inl mF)), (bL, .inl (cI, 65536, .inl mL)), (bN, .inl (cI, 65536, .inl mN)), (bX, .inl (cZ, 8192, .inl mX)), (bT, .inl (cI, 8192, .inl mT)), (aL, .inl (cL, 1, .inr (.inl ot)))]) (w1 := TSw cA a0 aR aM aW aP aS aC aO nW nE R f_1250 us_1250 P_1250 S_1250 sc_1250 li rc_1250 rn_1250 ro_1250 rd_1250 st_1250) hP hD [0, 1, 2, 3, 4, 5, 6, 7] [8, 9, 10, 11, 12, 13, 14, 15, 16, 17, 18, 19] rfl rfl (by decide) (by decide) hk1 hFc hP1 hD1
        have hP := hP.sub (ws' := LMw cA a0 aR aM aW aP aS aC aO nW nE cI cZ b0 bR bI bC bY bZ bF bL bN bX bT cL aL R f_1250 us_1250 P_1250 S_1250 sc_1250 li rc_1250 rn_1250 ro_1250 rd_1250 st_1250 mcd mwd men mR mI mC mY mZ mF mmd mhi mL mN mfr mX mT mct mtk ot) [12, 13, 14, 15, 16, 17, 18, 19, 0, 1, 2, 3, 4, 5, 6, 7, 8, 9, 10, 11] rfl
        have hD := hD.sub (ws' := LMw cA a0 aR aM aW aP aS aC aO nW nE cI cZ b0 bR bI bC bY bZ bF bL bN bX bT cL aL R f_1250 us_1250 P_1250 S_1250 sc_1250 li rc_1250 rn_1250 ro_1250 rd_1250 st_1250 mcd mwd men mR mI mC mY mZ mF mmd mhi mL mN mfr mX mT mct mtk ot) [12, 13, 14, 15, 16, 17, 18, 19, 0, 1, 2, 3, 4, 5, 6, 7, 8, 9, 10, 11] (by decide) rfl
        generalize H1 = H at hP hS ⊢
        clear hPc hDc hKc hFc hP1 hD1 hK1 hk1
        try dsimp only at h
        refine lv_aload_n hx hb d_L_law_1253 rfl (lv_at hl 2 rfl) ?_
        have hPc := hP.sub (ws' := RSw cI cZ b0 bR bI bC bY bZ bF bL bN bX bT mcd mwd men mR mI mC mY mZ mF mmd mhi mL mN mfr mX mT mct mtk) [8, 9, 10, 11, 12, 13, 14, 15, 16, 17, 18] rfl
        have hKc := hK.sub (tys' := [(cI, .int), (cZ, .boolean)]) [1, 2] rfl
        have hDc := hD.sub (ws' := RSw cI cZ b0 bR bI bC bY bZ bF bL bN bX bT mcd mwd men mR mI mC mY mZ mF mmd mhi mL mN mfr mX mT mct mtk) [8, 9, 10, 11, 12, 13, 14, 15, 16, 17, 18] (by decide) rfl
        have hFc := va_free (wc := RSw cI cZ b0 bR bI bC bY bZ bF bL bN bX bT mcd mwd men mR mI mC mY mZ mF mmd mhi mL mN mfr mX mT mct mtk) hD hS hA [8, 9, 10, 11, 12, 13, 14, 15, 16, 17, 18] rfl
        refine va_calli (va_runV (As := []) (rest := [.int r1250]) ⟨hx, hb, hml, hown, hw⟩ (mR_entries l dC dI cI cZ b0 bR bI bC bY bZ bF bL bN bX bT H.size mcd mwd men mR mI mC mY mZ mF mmd mhi mL mN mfr mX mT mct mtk _ h) (cwV 0 hw g_L_172 rfl rfl rfl (by decide +kernel) ⟨Nat.le_of_ble_eq_true rfl, Nat.le_of_ble_eq_true rfl⟩) (rw_PV (ci := 2) (q0 := 0) hKc hPc hDc rfl rfl) rfl rfl hl.1 rfl (lv_room (Nat.le_of_ble_eq_true rfl)) d_L_law_1254 ⟨by show 20 + 8 * (513 - (n + 1)) + 0 + 0 ≤ 601024; omega, by show 286816 + 48 * (513 - (n + 1)) + 0 + 0 ≤ 7293000; omega⟩) hS (fun q _ h => hFc q h) hFc (fun r1254 u t H1 locs ht hvm h hB hz1 hk1 hS => ?_)
        obtain ⟨mcd_1254, mX_1254, mT_1254, mct_1254, mtk_1254⟩ := u
        obtain ⟨hP1, hK1, hD1⟩ := hB
        rw [ht] at hP1
        obtain ⟨hP, hD⟩ := va_join (wr := [(a0, .inr (0, [.ref aR, .ref aM])), (aR, .inl (cA, 32, .inl R)), (aM, .inr (1, [.ref aW, .int us_1250, .ref aP, .ref aS, .int sc_1250, .int li, .ref aC, .int rn_1250, .ref aO, .int rd_1250, .int st_1250])), (aW, .inl (cA, nW, .inl f_1250)), (aP, .inl (cA, nE, .inl P_1250)), (aS, .inl (cA, nE, .inl S_1250)), (aC, .inl (cA, nE, .inl rc_1250)), (aO, .inl (cA, nE, .inl ro_1250)), (aL, .inl (cL, 1, .inr (.inl ot)))]) (w1 := RSw cI cZ b0 bR bI bC bY bZ bF bL bN bX bT mcd_1254 mwd men mR mI mC mY mZ mF mmd mhi mL mN mfr mX_1254 mT_1254 mct_1254 mtk_1254) hP hD [8, 9, 10, 11, 12, 13, 14, 15, 16, 17, 18] [0, 1, 2, 3, 4, 5, 6, 7, 19] rfl rfl (by decide) (by decide) hk1 hFc hP1 hD1
        have hP := hP.sub (ws' := LMw cA a0 aR aM aW aP aS aC aO nW nE cI cZ b0 bR bI bC bY bZ bF bL bN bX bT cL aL R f_1250 us_1250 P_1250 S_1250 sc_1250 li rc_1250 rn_1250 ro_1250 rd_1250 st_1250 mcd_1254 mwd men mR mI mC mY mZ mF mmd mhi mL mN mfr mX_1254 mT_1254 mct_1254 mtk_1254 ot) [0, 1, 2, 3, 4, 5, 6, 7, 9, 10, 11, 12, 13, 14, 15, 16, 17, 18, 19, 8] rfl
        have hD := hD.sub (ws' := LMw cA a0 aR aM aW aP aS aC aO nW nE cI cZ b0 bR bI bC bY bZ bF bL bN bX bT cL aL R f_1250 us_1250 P_1250 S_1250 sc_1250 li rc_1250 rn_1250 ro_1250 rd_1250 st_1250 mcd_1254 mwd men mR mI mC mY mZ mF mmd mhi mL mN mfr mX_1254 mT_1254 mct_1254 mtk_1254 ot) [0, 1, 2, 3, 4, 5, 6, 7, 9, 10, 11, 12, 13, 14, 15, 16, 17, 18, 19, 8] (by decide) rfl
        generalize H1 = H at hP hS ⊢
        clear hPc hDc hKc hFc hP1 hD1 hK1 hk1
        try dsimp only at h
        refine lv_icmp_eq (tgt := 1529) hx hb d_L_law_1257 (by decide) (fun c_1257 => ?_) (fun c_1257 => ?_)
        · have h := h.1 c_1257
          refine lv_iinc (v := x4 + (5 : Int32)) (lv' := [(4, .int (x4 + (5 : Int32))), (0, .ref b), (1, .ref a0), (2, .ref b0), (3, .ref aL)]) hx hb d_L_law_1529 hl (k := 4) rfl rfl (by decide) rfl (fun ls hl => ?_)
          refine lv_goto (tgt := 43) hx hb d_L_law_1532 (by decide) ?_
          refine W.widen (k := 20 + 8 * (513 - n)) (n := 286816 + 48 * (513 - n)) (by omega) (by omega) ?_
          exact ih (by omega) (x4 + (5 : Int32)) R f_1250 us_1250 P_1250 S_1250 sc_1250 li rc_1250 rn_1250 ro_1250 rd_1250 st_1250 mcd_1254 mwd men mR mI mC mY mZ mF mmd mhi mL mN mfr mX_1254 mT_1254 mct_1254 mtk_1254 ot H locs ls hP hD hS (lv_sub hl [1, 2, 3, 4, 0] rfl) h
        · have h := h.2 c_1257
          refine lv_iconst (v := (0 : Int32)) hx hb d_L_law_1260 (by decide) ?_
          exact h.elim
      · refine lv_tableIn (tgt := 1262) hx hb d_L_law_59 (by decide) (by decide) rfl (by decide) ?_
        have h := h.2.2.2.2.2.2.2.2.2.2.2.2.2.2.2.2.2.2.2.1 rfl
        refine lv_aload_n hx hb d_L_law_1262 rfl (lv_at hl 1 rfl) ?_
        refine lv_aload_n hx hb d_L_law_1263 rfl (lv_at hl 0 rfl) ?_
        refine lv_iload hx hb d_L_law_1264 (lv_at hl 4 rfl) ?_
        refine lv_iconst (v := (1 : Int32)) hx hb d_L_law_1266 (by decide) ?_
        refine lv_iadd hx hb d_L_law_1267 ?_
        refine va_sld hx hb hX hbl hbA hS h.1 d_L_law_1268 ?_
        have h := h.2
        refine lv_aload_n hx hb d_L_law_1269 rfl (lv_at hl 0 rfl) ?_
        refine lv_iload hx hb d_L_law_1270 (lv_at hl 4 rfl) ?_
        refine lv_iconst (v := (2 : Int32)) hx hb d_L_law_1272 (by decide) ?_
        refine lv_iadd hx hb d_L_law_1273 ?_
        refine va_sld hx hb hX hbl hbA hS h.1 d_L_law_1274 ?_
        have h := h.2
        refine lv_aload_n hx hb d_L_law_1275 rfl (lv_at hl 0 rfl) ?_
        refine lv_iload hx hb d_L_law_1276 (lv_at hl 4 rfl) ?_
        refine lv_iconst (v := (3 : Int32)) hx hb d_L_law_1278 (by decide) ?_
        refine lv_iadd hx hb d_L_law_1279 ?_
        refine va_sld hx hb hX hbl hbA hS h.1 d_L_law_1280 ?_
        have h := h.2
        refine lv_aload_n hx hb d_L_law_1281 rfl (lv_at hl 3 rfl) ?_
        have hPc := hP.sub (ws' := LHw cA a0 aR aM aW aP aS aC aO nW nE cL aL R f us P S sc li rc rn ro rd st ot) [0, 1, 2, 3, 4, 5, 6, 7, 19] rfl
        have hKc := hK.sub (tys' := [(cA, .int), (cL, .long)]) [0, 3] rfl
        have hDc := hD.sub (ws' := LHw cA a0 aR aM aW aP aS aC aO nW nE cL aL R f us P S sc li rc rn ro rd st ot) [0, 1, 2, 3, 4, 5, 6, 7, 19] (by decide) rfl
        have hFc := va_free (wc := LHw cA a0 aR aM aW aP aS aC aO nW nE cL aL R f us P S sc li rc rn ro rd st ot) hD hS hA [0, 1, 2, 3, 4, 5, 6, 7, 19] rfl
        refine va_calli (vx_runSW (As := [.ref a0, .int (xs (x4 + (1 : Int32)).toNatClampNeg), .int (xs (x4 + (2 : Int32)).toNatClampNeg), .int (xs (x4 + (3 : Int32)).toNatClampNeg), .ref aL]) (rest := []) ⟨hx, hb, hml, hown, hw⟩ (mL_instance l hlT sa dC dI cA a0 aR aM aW aP aS aC aO nW nE cL aL H.size R f us P S sc li rc rn ro rd st ot (xs (x4 + (1 : Int32)).toNatClampNeg) (xs (x4 + (2 : Int32)).toNatClampNeg) (xs (x4 + (3 : Int32)).toNatClampNeg) _ h) (vx_cwSW 5 hw g_L_173 rfl rfl rfl (by decide +kernel) ⟨Nat.le_of_ble_eq_true rfl, Nat.le_of_ble_eq_true rfl⟩) (xh_PS hKc hPc hDc (xt_at hXT hS) hFc hNC) rfl rfl hl.1 rfl (lv_room (Nat.le_of_ble_eq_true rfl)) d_L_law_1282 ⟨by show 20 + 8 * (513 - (n + 1)) + 3 ≤ 601024; omega, by show 286816 + 48 * (513 - (n + 1)) + 18 ≤ 7293000; omega⟩) hS (fun q _ h => hFc q h) hFc (fun r1282 u t H1 locs ht hvm h hB hz1 hk1 hS => ?_)
        obtain ⟨R_1282, f_1282, us_1282, P_1282, S_1282, sc_1282, rc_1282, rn_1282, ro_1282, rd_1282, st_1282, ot_1282⟩ := u
        obtain ⟨hP1, hK1, hD1⟩ := hB
        rw [ht] at hP1
        obtain ⟨hP, hD⟩ := va_join (wr := [(b0, .inr (2, [.int mcd, .int mwd, .int men, .ref bR, .ref bI, .ref bC, .ref bY, .ref bZ, .ref bF, .int mmd, .int mhi, .ref bL, .ref bN, .int mfr, .ref bX, .ref bT, .int mct, .int mtk])), (bR, .inl (cI, 32, .inl mR)), (bI, .inl (cI, 8192, .inl mI)), (bC, .inl (cI, 8192, .inl mC)), (bY, .inl (cZ, 8192, .inl mY)), (bZ, .inl (cI, 8192, .inl mZ)), (bF, .inl (cI, 8192, .inl mF)), (bL, .inl (cI, 65536, .inl mL)), (bN, .inl (cI, 65536, .inl mN)), (bX, .inl (cZ, 8192, .inl mX)), (bT, .inl (cI, 8192, .inl mT))]) (w1 := LHw cA a0 aR aM aW aP aS aC aO nW nE cL aL R_1282 f_1282 us_1282 P_1282 S_1282 sc_1282 li rc_1282 rn_1282 ro_1282 rd_1282 st_1282 ot_1282) hP hD [0, 1, 2, 3, 4, 5, 6, 7, 19] [8, 9, 10, 11, 12, 13, 14, 15, 16, 17, 18] rfl rfl (by decide) (by decide) hk1 hFc hP1 hD1
        have hP := hP.sub (ws' := LMw cA a0 aR aM aW aP aS aC aO nW nE cI cZ b0 bR bI bC bY bZ bF bL bN bX bT cL aL R_1282 f_1282 us_1282 P_1282 S_1282 sc_1282 li rc_1282 rn_1282 ro_1282 rd_1282 st_1282 mcd mwd men mR mI mC mY mZ mF mmd mhi mL mN mfr mX mT mct mtk ot_1282) [11, 12, 13, 14, 15, 16, 17, 18, 0, 1, 2, 3, 4, 5, 6, 7, 8, 9, 10, 19] rfl
        have hD := hD.sub (ws' := LMw cA a0 aR aM aW aP aS aC aO nW nE cI cZ b0 bR bI bC bY bZ bF bL bN bX bT cL aL R_1282 f_1282 us_1282 P_1282 S_1282 sc_1282 li rc_1282 rn_1282 ro_1282 rd_1282 st_1282 mcd mwd men mR mI mC mY mZ mF mmd mhi mL mN mfr mX mT mct mtk ot_1282) [11, 12, 13, 14, 15, 16, 17, 18, 0, 1, 2, 3, 4, 5, 6, 7, 8, 9, 10, 19] (by decide) rfl
        generalize H1 = H at hP hS ⊢
        clear hPc hDc hKc hFc hP1 hD1 hK1 hk1
        try dsimp only at h
        refine lv_istore (lv' := [(5, .int r1282), (0, .ref b), (1, .ref a0), (2, .ref b0), (3, .ref aL), (4, .int x4)]) hx hb d_L_law_1285 hl (by decide) rfl (fun ls hl => ?_)
        refine lv_aload_n hx hb d_L_law_1287 rfl (lv_at hl 3 rfl) ?_
        refine lv_aload_n hx hb d_L_law_1288 rfl (lv_at hl 1 rfl) ?_
        refine lv_iload hx hb d_L_law_1289 (lv_at hl 5 rfl) ?_
        refine lv_iconst (v := (1 : Int32)) hx hb d_L_law_1291 (by decide) ?_
        refine lv_iadd hx hb d_L_law_1292 ?_
        refine va_sld hx hb hX hbl hbA hS h.1 d_L_law_1293 ?_
        have h := h.2
        refine lv_aload_n hx hb d_L_law_1294 rfl (lv_at hl 1 rfl) ?_
        refine lv_iload hx hb d_L_law_1295 (lv_at hl 5 rfl) ?_
        refine lv_iconst (v := (2 : Int32)) hx hb d_L_law_1297 (by decide) ?_
        refine lv_iadd hx hb d_L_law_1298 ?_
        refine va_sld hx hb hX hbl hbA hS h.1 d_L_law_1299 ?_
        have h := h.2
        refine lv_aload_n hx hb d_L_law_1300 rfl (lv_at hl 1 rfl) ?_
        refine lv_iload hx hb d_L_law_1301 (lv_at hl 5 rfl) ?_
        refine lv_iconst (v := (3 : Int32)) hx hb d_L_law_1303 (by decide) ?_
        refine lv_iadd hx hb d_L_law_1304 ?_
        refine va_sld hx hb hX hbl hbA hS h.1 d_L_law_1305 ?_
        have h := h.2
        have hPc := hP.sub (ws' := RSw cI cZ b0 bR bI bC bY bZ bF bL bN bX bT mcd mwd men mR mI mC mY mZ mF mmd mhi mL mN mfr mX mT mct mtk) [8, 9, 10, 11, 12, 13, 14, 15, 16, 17, 18] rfl
        have hKc := hK.sub (tys' := [(cI, .int), (cZ, .boolean)]) [1, 2] rfl
        have hDc := hD.sub (ws' := RSw cI cZ b0 bR bI bC bY bZ bF bL bN bX bT mcd mwd men mR mI mC mY mZ mF mmd mhi mL mN mfr mX mT mct mtk) [8, 9, 10, 11, 12, 13, 14, 15, 16, 17, 18] (by decide) rfl
        have hFc := va_free (wc := RSw cI cZ b0 bR bI bC bY bZ bF bL bN bX bT mcd mwd men mR mI mC mY mZ mF mmd mhi mL mN mfr mX mT mct mtk) hD hS hA [8, 9, 10, 11, 12, 13, 14, 15, 16, 17, 18] rfl
        refine va_calli (va_runV (As := [.int (xs (x4 + (1 : Int32)).toNatClampNeg), .int (xs (x4 + (2 : Int32)).toNatClampNeg), .int (xs (x4 + (3 : Int32)).toNatClampNeg)]) (rest := []) ⟨hx, hb, hml, hown, hw⟩ (mR_instance l dC dI cI cZ b0 bR bI bC bY bZ bF bL bN bX bT H.size mcd mwd men mR mI mC mY mZ mF mmd mhi mL mN mfr mX mT mct mtk (xs (x4 + (1 : Int32)).toNatClampNeg) (xs (x4 + (2 : Int32)).toNatClampNeg) (xs (x4 + (3 : Int32)).toNatClampNeg) _ h) (cwV 3 hw g_L_175 rfl rfl rfl (by decide +kernel) ⟨Nat.le_of_ble_eq_true rfl, Nat.le_of_ble_eq_true rfl⟩) (rw_PV (ci := 2) (q0 := 0) hKc hPc hDc rfl rfl) rfl rfl hl.1 rfl (lv_room (Nat.le_of_ble_eq_true rfl)) d_L_law_1306 ⟨by show 20 + 8 * (513 - (n + 1)) + 3 + 0 ≤ 601024; omega, by show 286816 + 48 * (513 - (n + 1)) + 18 + 0 ≤ 7293000; omega⟩) hS (fun q _ h => hFc q h) hFc (fun r1306 u t H1 locs ht hvm h hB hz1 hk1 hS => ?_)
        obtain ⟨mcd_1306, mR_1306, mX_1306, mT_1306, mct_1306, mtk_1306⟩ := u
        obtain ⟨hP1, hK1, hD1⟩ := hB
        rw [ht] at hP1
        obtain ⟨hP, hD⟩ := va_join (wr := [(a0, .inr (0, [.ref aR, .ref aM])), (aR, .inl (cA, 32, .inl R_1282)), (aM, .inr (1, [.ref aW, .int us_1282, .ref aP, .ref aS, .int sc_1282, .int li, .ref aC, .int rn_1282, .ref aO, .int rd_1282, .int st_1282])), (aW, .inl (cA, nW, .inl f_1282)), (aP, .inl (cA, nE, .inl P_1282)), (aS, .inl (cA, nE, .inl S_1282)), (aC, .inl (cA, nE, .inl rc_1282)), (aO, .inl (cA, nE, .inl ro_1282)), (aL, .inl (cL, 1, .inr (.inl ot_1282)))]) (w1 := RSw cI cZ b0 bR bI bC bY bZ bF bL bN bX bT mcd_1306 mwd men mR_1306 mI mC mY mZ mF mmd mhi mL mN mfr mX_1306 mT_1306 mct_1306 mtk_1306) hP hD [8, 9, 10, 11, 12, 13, 14, 15, 16, 17, 18] [0, 1, 2, 3, 4, 5, 6, 7, 19] rfl rfl (by decide) (by decide) hk1 hFc hP1 hD1
        have hP := hP.sub (ws' := LMw cA a0 aR aM aW aP aS aC aO nW nE cI cZ b0 bR bI bC bY bZ bF bL bN bX bT cL aL R_1282 f_1282 us_1282 P_1282 S_1282 sc_1282 li rc_1282 rn_1282 ro_1282 rd_1282 st_1282 mcd_1306 mwd men mR_1306 mI mC mY mZ mF mmd mhi mL mN mfr mX_1306 mT_1306 mct_1306 mtk_1306 ot_1282) [0, 1, 2, 3, 4, 5, 6, 7, 9, 10, 11, 12, 13, 14, 15, 16, 17, 18, 19, 8] rfl
        have hD := hD.sub (ws' := LMw cA a0 aR aM aW aP aS aC aO nW nE cI cZ b0 bR bI bC bY bZ bF bL bN bX bT cL aL R_1282 f_1282 us_1282 P_1282 S_1282 sc_1282 li rc_1282 rn_1282 ro_1282 rd_1282 st_1282 mcd_1306 mwd men mR_1306 mI mC mY mZ mF mmd mhi mL mN mfr mX_1306 mT_1306 mct_1306 mtk_1306 ot_1282) [0, 1, 2, 3, 4, 5, 6, 7, 9, 10, 11, 12, 13, 14, 15, 16, 17, 18, 19, 8] (by decide) rfl
        generalize H1 = H at hP hS ⊢
        clear hPc hDc hKc hFc hP1 hD1 hK1 hk1
        try dsimp only at h
        refine lv_istore (lv' := [(6, .int r1306), (5, .int r1282), (0, .ref b), (1, .ref a0), (2, .ref b0), (3, .ref aL), (4, .int x4)]) hx hb d_L_law_1309 hl (by decide) rfl (fun ls hl => ?_)
        refine lv_aload_n hx hb d_L_law_1311 rfl (lv_at hl 4 rfl) ?_
        have hPc := hP.sub (ws' := RSw cI cZ b0 bR bI bC bY bZ bF bL bN bX bT mcd_1306 mwd men mR_1306 mI mC mY mZ mF mmd mhi mL mN mfr mX_1306 mT_1306 mct_1306 mtk_1306) [8, 9, 10, 11, 12, 13, 14, 15, 16, 17, 18] rfl
        have hKc := hK.sub (tys' := [(cI, .int), (cZ, .boolean)]) [1, 2] rfl
        refine rq_calli (W.runV (As := []) (rest := []) ⟨hx, hb, hml, hown, hw⟩ (mR_thrown l dC dI cI cZ b0 bR bI bC bY bZ bF bL bN bX bT mcd_1306 mwd men mR_1306 mI mC mY mZ mF mmd mhi mL mN mfr mX_1306 mT_1306 mct_1306 mtk_1306 _ h) (cwV 0 hw g_L_103 rfl rfl rfl (by decide +kernel) ⟨Nat.le_of_ble_eq_true rfl, Nat.le_of_ble_eq_true rfl⟩) (ro_PV (ci := 2) (q0 := 0) hKc hPc rfl rfl) rfl rfl hl.1 rfl (lv_room (Nat.le_of_ble_eq_true rfl)) d_L_law_1312 ⟨by show 20 + 8 * (513 - (n + 1)) + 3 + 0 + 0 ≤ 601024; omega, by show 286816 + 48 * (513 - (n + 1)) + 18 + 0 + 0 ≤ 7293000; omega⟩) (fun r1312 h => ?_)
        clear hPc hKc
        refine lv_iload hx hb d_L_law_1315 (lv_at hl 1 rfl) ?_
        refine lv_icmp_eq (tgt := 1322) hx hb d_L_law_1317 (by decide) (fun c_1317 => ?_) (fun c_1317 => ?_)
        · have h := h.1 c_1317
          refine lv_iload hx hb d_L_law_1322 (lv_at hl 1 rfl) ?_
          refine lv_if_ne (tgt := 1339) hx hb d_L_law_1324 (by decide) (fun c_1324 => ?_) (fun c_1324 => ?_)
          · have h := h.2 c_1324
            refine lv_goto (tgt := 1529) hx hb d_L_law_1339 (by decide) ?_
            refine lv_iinc (v := x4 + (5 : Int32)) (lv' := [(4, .int (x4 + (5 : Int32))), (6, .int r1306), (5, .int r1282), (0, .ref b), (1, .ref a0), (2, .ref b0), (3, .ref aL)]) hx hb d_L_law_1529 hl (k := 6) rfl rfl (by decide) rfl (fun ls hl => ?_)
            refine lv_goto (tgt := 43) hx hb d_L_law_1532 (by decide) ?_
            refine W.widen (k := 20 + 8 * (513 - n)) (n := 286816 + 48 * (513 - n)) (by omega) (by omega) ?_
            exact ih (by omega) (x4 + (5 : Int32)) R_1282 f_1282 us_1282 P_1282 S_1282 sc_1282 li rc_1282 rn_1282 ro_1282 rd_1282 st_1282 mcd_1306 mwd men mR_1306 mI mC mY mZ mF mmd mhi mL mN mfr mX_1306 mT_1306 mct_1306 mtk_1306 ot_1282 H locs ls hP hD hS (lv_sub hl [3, 4, 5, 6, 0] rfl) h
          · have h := h.1 c_1324
            refine lv_aload_n hx hb d_L_law_1327 rfl (lv_at hl 5 rfl) ?_
            refine lv_iconst (v := (0 : Int32)) hx hb d_L_law_1328 (by decide) ?_
            refine va_lald hx hb hK hP 19 3 rfl rfl h.1 d_L_law_1329 ?_
            have h := h.2
            refine lv_iload hx hb d_L_law_1330 (lv_at hl 0 rfl) ?_
            refine lv_i2l (v := r1306.toInt64) hx hb d_L_law_1332 rfl ?_
            refine W.lcmp hx hb d_L_law_1333 ?_
            refine lv_if_eq (tgt := 1339) hx hb d_L_law_1334 (by decide) (fun c_1334 => ?_) (fun c_1334 => ?_)
            · have h := h.1 c_1334
              refine lv_goto (tgt := 1529) hx hb d_L_law_1339 (by decide) ?_
              refine lv_iinc (v := x4 + (5 : Int32)) (lv' := [(4, .int (x4 + (5 : Int32))), (6, .int r1306), (5, .int r1282), (0, .ref b), (1, .ref a0), (2, .ref b0), (3, .ref aL)]) hx hb d_L_law_1529 hl (k := 6) rfl rfl (by decide) rfl (fun ls hl => ?_)
              refine lv_goto (tgt := 43) hx hb d_L_law_1532 (by decide) ?_
              refine W.widen (k := 20 + 8 * (513 - n)) (n := 286816 + 48 * (513 - n)) (by omega) (by omega) ?_
              exact ih (by omega) (x4 + (5 : Int32)) R_1282 f_1282 us_1282 P_1282 S_1282 sc_1282 li rc_1282 rn_1282 ro_1282 rd_1282 st_1282 mcd_1306 mwd men mR_1306 mI mC mY mZ mF mmd mhi mL mN mfr mX_1306 mT_1306 mct_1306 mtk_1306 ot_1282 H locs ls hP hD hS (lv_sub hl [3, 4, 5, 6, 0] rfl) h
            · have h := h.2 c_1334
              refine lv_iconst (v := (0 : Int32)) hx hb d_L_law_1337 (by decide) ?_
              exact h.elim
        · have h := h.2 c_1317
          refine lv_iconst (v := (0 : Int32)) hx hb d_L_law_1320 (by decide) ?_
          exact h.elim
      · refine lv_tableIn (tgt := 1342) hx hb d_L_law_59 (by decide) (by decide) rfl (by decide) ?_
        have h := h.2.2.2.2.2.2.2.2.2.2.2.2.2.2.2.2.2.2.2.2.1 rfl
        refine lv_aload_n hx hb d_L_law_1342 rfl (lv_at hl 1 rfl) ?_
        refine lv_aload_n hx hb d_L_law_1343 rfl (lv_at hl 0 rfl) ?_
        refine lv_iload hx hb d_L_law_1344 (lv_at hl 4 rfl) ?_
        refine lv_iconst (v := (1 : Int32)) hx hb d_L_law_1346 (by decide) ?_
        refine lv_iadd hx hb d_L_law_1347 ?_
        refine va_sld hx hb hX hbl hbA hS h.1 d_L_law_1348 ?_
        have h := h.2
        refine lv_aload_n hx hb d_L_law_1349 rfl (lv_at hl 3 rfl) ?_
        have hPc := hP.sub (ws' := LHw cA a0 aR aM aW aP aS aC aO nW nE cL aL R f us P S sc li rc rn ro rd st ot) [0, 1, 2, 3, 4, 5, 6, 7, 19] rfl
        have hKc := hK.sub (tys' := [(cA, .int), (cL, .long)]) [0, 3] rfl
        have hDc := hD.sub (ws' := LHw cA a0 aR aM aW aP aS aC aO nW nE cL aL R f us P S sc li rc rn ro rd st ot) [0, 1, 2, 3, 4, 5, 6, 7, 19] (by decide) rfl
        have hFc := va_free (wc := LHw cA a0 aR aM aW aP aS aC aO nW nE cL aL R f us P S sc li rc rn ro rd st ot) hD hS hA [0, 1, 2, 3, 4, 5, 6, 7, 19] rfl
        refine va_calli (vx_runSW (As := [.ref a0, .int (xs (x4 + (1 : Int32)).toNatClampNeg), .ref aL]) (rest := []) ⟨hx, hb, hml, hown, hw⟩ (mL_owners l hlT sa dC dI cA a0 aR aM aW aP aS aC aO nW nE cL aL H.size R f us P S sc li rc rn ro rd st ot (xs (x4 + (1 : Int32)).toNatClampNeg) _ h) (vx_cwSW 3 hw g_L_176 rfl rfl rfl (by decide +kernel) ⟨Nat.le_of_ble_eq_true rfl, Nat.le_of_ble_eq_true rfl⟩) (xh_PS hKc hPc hDc (xt_at hXT hS) hFc hNC) rfl rfl hl.1 rfl (lv_room (Nat.le_of_ble_eq_true rfl)) d_L_law_1350 ⟨by show 20 + 8 * (513 - (n + 1)) + 1 ≤ 601024; omega, by show 286816 + 48 * (513 - (n + 1)) + 6 ≤ 7293000; omega⟩) hS (fun q _ h => hFc q h) hFc (fun r1350 u t H1 locs ht hvm h hB hz1 hk1 hS => ?_)
        obtain ⟨f_1350, us_1350, P_1350, S_1350, sc_1350, rc_1350, rn_1350, ro_1350, rd_1350, st_1350, ot_1350⟩ := u
        obtain ⟨hP1, hK1, hD1⟩ := hB
        rw [ht] at hP1
        obtain ⟨hP, hD⟩ := va_join (wr := [(b0, .inr (2, [.int mcd, .int mwd, .int men, .ref bR, .ref bI, .ref bC, .ref bY, .ref bZ, .ref bF, .int mmd, .int mhi, .ref bL, .ref bN, .int mfr, .ref bX, .ref bT, .int mct, .int mtk])), (bR, .inl (cI, 32, .inl mR)), (bI, .inl (cI, 8192, .inl mI)), (bC, .inl (cI, 8192, .inl mC)), (bY, .inl (cZ, 8192, .inl mY)), (bZ, .inl (cI, 8192, .inl mZ)), (bF, .inl (cI, 8192, .inl mF)), (bL, .inl (cI, 65536, .inl mL)), (bN, .inl (cI, 65536, .inl mN)), (bX, .inl (cZ, 8192, .inl mX)), (bT, .inl (cI, 8192, .inl mT))]) (w1 := LHw cA a0 aR aM aW aP aS aC aO nW nE cL aL R f_1350 us_1350 P_1350 S_1350 sc_1350 li rc_1350 rn_1350 ro_1350 rd_1350 st_1350 ot_1350) hP hD [0, 1, 2, 3, 4, 5, 6, 7, 19] [8, 9, 10, 11, 12, 13, 14, 15, 16, 17, 18] rfl rfl (by decide) (by decide) hk1 hFc hP1 hD1
        have hP := hP.sub (ws' := LMw cA a0 aR aM aW aP aS aC aO nW nE cI cZ b0 bR bI bC bY bZ bF bL bN bX bT cL aL R f_1350 us_1350 P_1350 S_1350 sc_1350 li rc_1350 rn_1350 ro_1350 rd_1350 st_1350 mcd mwd men mR mI mC mY mZ mF mmd mhi mL mN mfr mX mT mct mtk ot_1350) [11, 12, 13, 14, 15, 16, 17, 18, 0, 1, 2, 3, 4, 5, 6, 7, 8, 9, 10, 19] rfl
        have hD := hD.sub (ws' := LMw cA a0 aR aM aW aP aS aC aO nW nE cI cZ b0 bR bI bC bY bZ bF bL bN bX bT cL aL R f_1350 us_1350 P_1350 S_1350 sc_1350 li rc_1350 rn_1350 ro_1350 rd_1350 st_1350 mcd mwd men mR mI mC mY mZ mF mmd mhi mL mN mfr mX mT mct mtk ot_1350) [11, 12, 13, 14, 15, 16, 17, 18, 0, 1, 2, 3, 4, 5, 6, 7, 8, 9, 10, 19] (by decide) rfl
        generalize H1 = H at hP hS ⊢
        clear hPc hDc hKc hFc hP1 hD1 hK1 hk1
        try dsimp only at h
        refine lv_istore (lv' := [(5, .int r1350), (0, .ref b), (1, .ref a0), (2, .ref b0), (3, .ref aL), (4, .int x4)]) hx hb d_L_law_1353 hl (by decide) rfl (fun ls hl => ?_)
        refine lv_aload_n hx hb d_L_law_1355 rfl (lv_at hl 3 rfl) ?_
        refine lv_aload_n hx hb d_L_law_1356 rfl (lv_at hl 1 rfl) ?_
        refine lv_iload hx hb d_L_law_1357 (lv_at hl 5 rfl) ?_
        refine lv_iconst (v := (1 : Int32)) hx hb d_L_law_1359 (by decide) ?_
        refine lv_iadd hx hb d_L_law_1360 ?_
        refine va_sld hx hb hX hbl hbA hS h.1 d_L_law_1361 ?_
        have h := h.2
        have hPc := hP.sub (ws' := RSw cI cZ b0 bR bI bC bY bZ bF bL bN bX bT mcd mwd men mR mI mC mY mZ mF mmd mhi mL mN mfr mX mT mct mtk) [8, 9, 10, 11, 12, 13, 14, 15, 16, 17, 18] rfl
        have hKc := hK.sub (tys' := [(cI, .int), (cZ, .boolean)]) [1, 2] rfl
        have hDc := hD.sub (ws' := RSw cI cZ b0 bR bI bC bY bZ bF bL bN bX bT mcd mwd men mR mI mC mY mZ mF mmd mhi mL mN mfr mX mT mct mtk) [8, 9, 10, 11, 12, 13, 14, 15, 16, 17, 18] (by decide) rfl
        have hFc := va_free (wc := RSw cI cZ b0 bR bI bC bY bZ bF bL bN bX bT mcd mwd men mR mI mC mY mZ mF mmd mhi mL mN mfr mX mT mct mtk) hD hS hA [8, 9, 10, 11, 12, 13, 14, 15, 16, 17, 18] rfl
        refine va_calli (va_runV (As := [.int (xs (x4 + (1 : Int32)).toNatClampNeg)]) (rest := []) ⟨hx, hb, hml, hown, hw⟩ (mR_owners l dC dI cI cZ b0 bR bI bC bY bZ bF bL bN bX bT H.size mcd mwd men mR mI mC mY mZ mF mmd mhi mL mN mfr mX mT mct mtk (xs (x4 + (1 : Int32)).toNatClampNeg) _ h) (cwV 1 hw g_L_178 rfl rfl rfl (by decide +kernel) ⟨Nat.le_of_ble_eq_true rfl, Nat.le_of_ble_eq_true rfl⟩) (rw_PV (ci := 2) (q0 := 0) hKc hPc hDc rfl rfl) rfl rfl hl.1 rfl (lv_room (Nat.le_of_ble_eq_true rfl)) d_L_law_1362 ⟨by show 20 + 8 * (513 - (n + 1)) + 1 + 0 ≤ 601024; omega, by show 286816 + 48 * (513 - (n + 1)) + 6 + 0 ≤ 7293000; omega⟩) hS (fun q _ h => hFc q h) hFc (fun r1362 u t H1 locs ht hvm h hB hz1 hk1 hS => ?_)
        obtain ⟨mcd_1362, mX_1362, mT_1362, mct_1362, mtk_1362⟩ := u
        obtain ⟨hP1, hK1, hD1⟩ := hB
        rw [ht] at hP1
        obtain ⟨hP, hD⟩ := va_join (wr := [(a0, .inr (0, [.ref aR, .ref aM])), (aR, .inl (cA, 32, .inl R)), (aM, .inr (1, [.ref aW, .int us_1350, .ref aP, .ref aS, .int sc_1350, .int li, .ref aC, .int rn_1350, .ref aO, .int rd_1350, .int st_1350])), (aW, .inl (cA, nW, .inl f_1350)), (aP, .inl (cA, nE, .inl P_1350)), (aS, .inl (cA, nE, .inl S_1350)), (aC, .inl (cA, nE, .inl rc_1350)), (aO, .inl (cA, nE, .inl ro_1350)), (aL, .inl (cL, 1, .inr (.inl ot_1350)))]) (w1 := RSw cI cZ b0 bR bI bC bY bZ bF bL bN bX bT mcd_1362 mwd men mR mI mC mY mZ mF mmd mhi mL mN mfr mX_1362 mT_1362 mct_1362 mtk_1362) hP hD [8, 9, 10, 11, 12, 13, 14, 15, 16, 17, 18] [0, 1, 2, 3, 4, 5, 6, 7, 19] rfl rfl (by decide) (by decide) hk1 hFc hP1 hD1
        have hP := hP.sub (ws' := LMw cA a0 aR aM aW aP aS aC aO nW nE cI cZ b0 bR bI bC bY bZ bF bL bN bX bT cL aL R f_1350 us_1350 P_1350 S_1350 sc_1350 li rc_1350 rn_1350 ro_1350 rd_1350 st_1350 mcd_1362 mwd men mR mI mC mY mZ mF mmd mhi mL mN mfr mX_1362 mT_1362 mct_1362 mtk_1362 ot_1350) [0, 1, 2, 3, 4, 5, 6, 7, 9, 10, 11, 12, 13, 14, 15, 16, 17, 18, 19, 8] rfl
        have hD := hD.sub (ws' := LMw cA a0 aR aM aW aP aS aC aO nW nE cI cZ b0 bR bI bC bY bZ bF bL bN bX bT cL aL R f_1350 us_1350 P_1350 S_1350 sc_1350 li rc_1350 rn_1350 ro_1350 rd_1350 st_1350 mcd_1362 mwd men mR mI mC mY mZ mF mmd mhi mL mN mfr mX_1362 mT_1362 mct_1362 mtk_1362 ot_1350) [0, 1, 2, 3, 4, 5, 6, 7, 9, 10, 11, 12, 13, 14, 15, 16, 17, 18, 19, 8] (by decide) rfl
        generalize H1 = H at hP hS ⊢
        clear hPc hDc hKc hFc hP1 hD1 hK1 hk1
        try dsimp only at h
        refine lv_istore (lv' := [(6, .int r1362), (5, .int r1350), (0, .ref b), (1, .ref a0), (2, .ref b0), (3, .ref aL), (4, .int x4)]) hx hb d_L_law_1365 hl (by decide) rfl (fun ls hl => ?_)
        refine lv_aload_n hx hb d_L_law_1367 rfl (lv_at hl 4 rfl) ?_
        have hPc := hP.sub (ws' := RSw cI cZ b0 bR bI bC bY bZ bF bL bN bX bT mcd_1362 mwd men mR mI mC mY mZ mF mmd mhi mL mN mfr mX_1362 mT_1362 mct_1362 mtk_1362) [8, 9, 10, 11, 12, 13, 14, 15, 16, 17, 18] rfl
        have hKc := hK.sub (tys' := [(cI, .int), (cZ, .boolean)]) [1, 2] rfl
        refine rq_calli (W.runV (As := []) (rest := []) ⟨hx, hb, hml, hown, hw⟩ (mR_thrown l dC dI cI cZ b0 bR bI bC bY bZ bF bL bN bX bT mcd_1362 mwd men mR mI mC mY mZ mF mmd mhi mL mN mfr mX_1362 mT_1362 mct_1362 mtk_1362 _ h) (cwV 0 hw g_L_103 rfl rfl rfl (by decide +kernel) ⟨Nat.le_of_ble_eq_true rfl, Nat.le_of_ble_eq_true rfl⟩) (ro_PV (ci := 2) (q0 := 0) hKc hPc rfl rfl) rfl rfl hl.1 rfl (lv_room (Nat.le_of_ble_eq_true rfl)) d_L_law_1368 ⟨by show 20 + 8 * (513 - (n + 1)) + 1 + 0 + 0 ≤ 601024; omega, by show 286816 + 48 * (513 - (n + 1)) + 6 + 0 + 0 ≤ 7293000; omega⟩) (fun r1368 h => ?_)
        clear hPc hKc
        refine lv_iload hx hb d_L_law_1371 (lv_at hl 1 rfl) ?_
        refine lv_icmp_eq (tgt := 1378) hx hb d_L_law_1373 (by decide) (fun c_1373 => ?_) (fun c_1373 => ?_)
        · have h := h.1 c_1373
          refine lv_iload hx hb d_L_law_1378 (lv_at hl 1 rfl) ?_
          refine lv_if_ne (tgt := 1395) hx hb d_L_law_1380 (by decide) (fun c_1380 => ?_) (fun c_1380 => ?_)
          · have h := h.2 c_1380
            refine lv_goto (tgt := 1529) hx hb d_L_law_1395 (by decide) ?_
            refine lv_iinc (v := x4 + (5 : Int32)) (lv' := [(4, .int (x4 + (5 : Int32))), (6, .int r1362), (5, .int r1350), (0, .ref b), (1, .ref a0), (2, .ref b0), (3, .ref aL)]) hx hb d_L_law_1529 hl (k := 6) rfl rfl (by decide) rfl (fun ls hl => ?_)
            refine lv_goto (tgt := 43) hx hb d_L_law_1532 (by decide) ?_
            refine W.widen (k := 20 + 8 * (513 - n)) (n := 286816 + 48 * (513 - n)) (by omega) (by omega) ?_
            exact ih (by omega) (x4 + (5 : Int32)) R f_1350 us_1350 P_1350 S_1350 sc_1350 li rc_1350 rn_1350 ro_1350 rd_1350 st_1350 mcd_1362 mwd men mR mI mC mY mZ mF mmd mhi mL mN mfr mX_1362 mT_1362 mct_1362 mtk_1362 ot_1350 H locs ls hP hD hS (lv_sub hl [3, 4, 5, 6, 0] rfl) h
          · have h := h.1 c_1380
            refine lv_aload_n hx hb d_L_law_1383 rfl (lv_at hl 5 rfl) ?_
            refine lv_iconst (v := (0 : Int32)) hx hb d_L_law_1384 (by decide) ?_
            refine va_lald hx hb hK hP 19 3 rfl rfl h.1 d_L_law_1385 ?_
            have h := h.2
            refine lv_iload hx hb d_L_law_1386 (lv_at hl 0 rfl) ?_
            refine lv_i2l (v := r1362.toInt64) hx hb d_L_law_1388 rfl ?_
            refine W.lcmp hx hb d_L_law_1389 ?_
            refine lv_if_eq (tgt := 1395) hx hb d_L_law_1390 (by decide) (fun c_1390 => ?_) (fun c_1390 => ?_)
            · have h := h.1 c_1390
              refine lv_goto (tgt := 1529) hx hb d_L_law_1395 (by decide) ?_
              refine lv_iinc (v := x4 + (5 : Int32)) (lv' := [(4, .int (x4 + (5 : Int32))), (6, .int r1362), (5, .int r1350), (0, .ref b), (1, .ref a0), (2, .ref b0), (3, .ref aL)]) hx hb d_L_law_1529 hl (k := 6) rfl rfl (by decide) rfl (fun ls hl => ?_)
              refine lv_goto (tgt := 43) hx hb d_L_law_1532 (by decide) ?_
              refine W.widen (k := 20 + 8 * (513 - n)) (n := 286816 + 48 * (513 - n)) (by omega) (by omega) ?_
              exact ih (by omega) (x4 + (5 : Int32)) R f_1350 us_1350 P_1350 S_1350 sc_1350 li rc_1350 rn_1350 ro_1350 rd_1350 st_1350 mcd_1362 mwd men mR mI mC mY mZ mF mmd mhi mL mN mfr mX_1362 mT_1362 mct_1362 mtk_1362 ot_1350 H locs ls hP hD hS (lv_sub hl [3, 4, 5, 6, 0] rfl) h
            · have h := h.2 c_1390
              refine lv_iconst (v := (0 : Int32)) hx hb d_L_law_1393 (by decide) ?_
              exact h.elim
        · have h := h.2 c_1373
          refine lv_iconst (v := (0 : Int32)) hx hb d_L_law_1376 (by decide) ?_
          exact h.elim
      · refine lv_tableIn (tgt := 1398) hx hb d_L_law_59 (by decide) (by decide) rfl (by decide) ?_
        have h := h.2.2.2.2.2.2.2.2.2.2.2.2.2.2.2.2.2.2.2.2.2.1 rfl
        refine lv_aload_n hx hb d_L_law_1398 rfl (lv_at hl 1 rfl) ?_
        refine lv_aload_n hx hb d_L_law_1399 rfl (lv_at hl 0 rfl) ?_
        refine lv_iload hx hb d_L_law_1400 (lv_at hl 4 rfl) ?_
        refine lv_iconst (v := (1 : Int32)) hx hb d_L_law_1402 (by decide) ?_
        refine lv_iadd hx hb d_L_law_1403 ?_
        refine va_sld hx hb hX hbl hbA hS h.1 d_L_law_1404 ?_
        have h := h.2
        refine lv_aload_n hx hb d_L_law_1405 rfl (lv_at hl 0 rfl) ?_
        refine lv_iload hx hb d_L_law_1406 (lv_at hl 4 rfl) ?_
        refine lv_iconst (v := (2 : Int32)) hx hb d_L_law_1408 (by decide) ?_
        refine lv_iadd hx hb d_L_law_1409 ?_
        refine va_sld hx hb hX hbl hbA hS h.1 d_L_law_1410 ?_
        have h := h.2
        refine lv_aload_n hx hb d_L_law_1411 rfl (lv_at hl 3 rfl) ?_
        have hPc := hP.sub (ws' := LHw cA a0 aR aM aW aP aS aC aO nW nE cL aL R f us P S sc li rc rn ro rd st ot) [0, 1, 2, 3, 4, 5, 6, 7, 19] rfl
        have hKc := hK.sub (tys' := [(cA, .int), (cL, .long)]) [0, 3] rfl
        have hDc := hD.sub (ws' := LHw cA a0 aR aM aW aP aS aC aO nW nE cL aL R f us P S sc li rc rn ro rd st ot) [0, 1, 2, 3, 4, 5, 6, 7, 19] (by decide) rfl
        have hFc := va_free (wc := LHw cA a0 aR aM aW aP aS aC aO nW nE cL aL R f us P S sc li rc rn ro rd st ot) hD hS hA [0, 1, 2, 3, 4, 5, 6, 7, 19] rfl
        refine va_calli (vx_runSW (As := [.ref a0, .int (xs (x4 + (1 : Int32)).toNatClampNeg), .int (xs (x4 + (2 : Int32)).toNatClampNeg), .ref aL]) (rest := []) ⟨hx, hb, hml, hown, hw⟩ (mL_reaches l hlT sa dC dI cA a0 aR aM aW aP aS aC aO nW nE cL aL H.size R f us P S sc li rc rn ro rd st ot (xs (x4 + (1 : Int32)).toNatClampNeg) (xs (x4 + (2 : Int32)).toNatClampNeg) _ h) (vx_cwSW 4 hw g_L_179 rfl rfl rfl (by decide +kernel) ⟨Nat.le_of_ble_eq_true rfl, Nat.le_of_ble_eq_true rfl⟩) (xh_PS hKc hPc hDc (xt_at hXT hS) hFc hNC) rfl rfl hl.1 rfl (lv_room (Nat.le_of_ble_eq_true rfl)) d_L_law_1412 ⟨by show 20 + 8 * (513 - (n + 1)) + 4 ≤ 601024; omega, by show 286816 + 48 * (513 - (n + 1)) + 24 ≤ 7293000; omega⟩) hS (fun q _ h => hFc q h) hFc (fun r1412 u t H1 locs ht hvm h hB hz1 hk1 hS => ?_)
        obtain ⟨rc_1412, rn_1412, ro_1412, rd_1412, ot_1412⟩ := u
        obtain ⟨hP1, hK1, hD1⟩ := hB
        rw [ht] at hP1
        obtain ⟨hP, hD⟩ := va_join (wr := [(b0, .inr (2, [.int mcd, .int mwd, .int men, .ref bR, .ref bI, .ref bC, .ref bY, .ref bZ, .ref bF, .int mmd, .int mhi, .ref bL, .ref bN, .int mfr, .ref bX, .ref bT, .int mct, .int mtk])), (bR, .inl (cI, 32, .inl mR)), (bI, .inl (cI, 8192, .inl mI)), (bC, .inl (cI, 8192, .inl mC)), (bY, .inl (cZ, 8192, .inl mY)), (bZ, .inl (cI, 8192, .inl mZ)), (bF, .inl (cI, 8192, .inl mF)), (bL, .inl (cI, 65536, .inl mL)), (bN, .inl (cI, 65536, .inl mN)), (bX, .inl (cZ, 8192, .inl mX)), (bT, .inl (cI, 8192, .inl mT))]) (w1 := LHw cA a0 aR aM aW aP aS aC aO nW nE cL aL R f us P S sc li rc_1412 rn_1412 ro_1412 rd_1412 st ot_1412) hP hD [0, 1, 2, 3, 4, 5, 6, 7, 19] [8, 9, 10, 11, 12, 13, 14, 15, 16, 17, 18] rfl rfl (by decide) (by decide) hk1 hFc hP1 hD1
        have hP := hP.sub (ws' := LMw cA a0 aR aM aW aP aS aC aO nW nE cI cZ b0 bR bI bC bY bZ bF bL bN bX bT cL aL R f us P S sc li rc_1412 rn_1412 ro_1412 rd_1412 st mcd mwd men mR mI mC mY mZ mF mmd mhi mL mN mfr mX mT mct mtk ot_1412) [11, 12, 13, 14, 15, 16, 17, 18, 0, 1, 2, 3, 4, 5, 6, 7, 8, 9, 10, 19] rfl
        have hD := hD.sub (ws' := LMw cA a0 aR aM aW aP aS aC aO nW nE cI cZ b0 bR bI bC bY bZ bF bL bN bX bT cL aL R f us P S sc li rc_1412 rn_1412 ro_1412 rd_1412 st mcd mwd men mR mI mC mY mZ mF mmd mhi mL mN mfr mX mT mct mtk ot_1412) [11, 12, 13, 14, 15, 16, 17, 18, 0, 1, 2, 3, 4, 5, 6, 7, 8, 9, 10, 19] (by decide) rfl
        generalize H1 = H at hP hS ⊢
        clear hPc hDc hKc hFc hP1 hD1 hK1 hk1
        try dsimp only at h
        refine lv_istore (lv' := [(5, .int r1412), (0, .ref b), (1, .ref a0), (2, .ref b0), (3, .ref aL), (4, .int x4)]) hx hb d_L_law_1415 hl (by decide) rfl (fun ls hl => ?_)
        refine lv_aload_n hx hb d_L_law_1417 rfl (lv_at hl 3 rfl) ?_
        refine lv_aload_n hx hb d_L_law_1418 rfl (lv_at hl 1 rfl) ?_
        refine lv_iload hx hb d_L_law_1419 (lv_at hl 5 rfl) ?_
        refine lv_iconst (v := (1 : Int32)) hx hb d_L_law_1421 (by decide) ?_
        refine lv_iadd hx hb d_L_law_1422 ?_
        refine va_sld hx hb hX hbl hbA hS h.1 d_L_law_1423 ?_
        have h := h.2
        refine lv_aload_n hx hb d_L_law_1424 rfl (lv_at hl 1 rfl) ?_
        refine lv_iload hx hb d_L_law_1425 (lv_at hl 5 rfl) ?_
        refine lv_iconst (v := (2 : Int32)) hx hb d_L_law_1427 (by decide) ?_
        refine lv_iadd hx hb d_L_law_1428 ?_
        refine va_sld hx hb hX hbl hbA hS h.1 d_L_law_1429 ?_
        have h := h.2
        have hPc := hP.sub (ws' := RSw cI cZ b0 bR bI bC bY bZ bF bL bN bX bT mcd mwd men mR mI mC mY mZ mF mmd mhi mL mN mfr mX mT mct mtk) [8, 9, 10, 11, 12, 13, 14, 15, 16, 17, 18] rfl
        have hKc := hK.sub (tys' := [(cI, .int), (cZ, .boolean)]) [1, 2] rfl
        have hDc := hD.sub (ws' := RSw cI cZ b0 bR bI bC bY bZ bF bL bN bX bT mcd mwd men mR mI mC mY mZ mF mmd mhi mL mN mfr mX mT mct mtk) [8, 9, 10, 11, 12, 13, 14, 15, 16, 17, 18] (by decide) rfl
        have hFc := va_free (wc := RSw cI cZ b0 bR bI bC bY bZ bF bL bN bX bT mcd mwd men mR mI mC mY mZ mF mmd mhi mL mN mfr mX mT mct mtk) hD hS hA [8, 9, 10, 11, 12, 13, 14, 15, 16, 17, 18] rfl
        refine va_calli (va_runV (As := [.int (xs (x4 + (1 : Int32)).toNatClampNeg), .int (xs (x4 + (2 : Int32)).toNatClampNeg)]) (rest := []) ⟨hx, hb, hml, hown, hw⟩ (mR_reaches l dC dI cI cZ b0 bR bI bC bY bZ bF bL bN bX bT H.size mcd mwd men mR mI mC mY mZ mF mmd mhi mL mN mfr mX mT mct mtk (xs (x4 + (1 : Int32)).toNatClampNeg) (xs (x4 + (2 : Int32)).toNatClampNeg) _ h) (cwV 2 hw g_L_181 rfl rfl rfl (by decide +kernel) ⟨Nat.le_of_ble_eq_true rfl, Nat.le_of_ble_eq_true rfl⟩) (rw_PV (ci := 2) (q0 := 0) hKc hPc hDc rfl rfl) rfl rfl hl.1 rfl (lv_room (Nat.le_of_ble_eq_true rfl)) d_L_law_1430 ⟨by show 20 + 8 * (513 - (n + 1)) + 4 + 0 ≤ 601024; omega, by show 286816 + 48 * (513 - (n + 1)) + 24 + 0 ≤ 7293000; omega⟩) hS (fun q _ h => hFc q h) hFc (fun r1430 u t H1 locs ht hvm h hB hz1 hk1 hS => ?_)
        obtain ⟨mcd_1430, mX_1430, mT_1430, mct_1430, mtk_1430⟩ := u
        obtain ⟨hP1, hK1, hD1⟩ := hB
        rw [ht] at hP1
        obtain ⟨hP, hD⟩ := va_join (wr := [(a0, .inr (0, [.ref aR, .ref aM])), (aR, .inl (cA, 32, .inl R)), (aM, .inr (1, [.ref aW, .int us, .ref aP, .ref aS, .int sc, .int li, .ref aC, .int rn_1412, .ref aO, .int rd_1412, .int st])), (aW, .inl (cA, nW, .inl f)), (aP, .inl (cA, nE, .inl P)), (aS, .inl (cA, nE, .inl S)), (aC, .inl (cA, nE, .inl rc_1412)), (aO, .inl (cA, nE, .inl ro_1412)), (aL, .inl (cL, 1, .inr (.inl ot_1412)))]) (w1 := RSw cI cZ b0 bR bI bC bY bZ bF bL bN bX bT mcd_1430 mwd men mR mI mC mY mZ mF mmd mhi mL mN mfr mX_1430 mT_1430 mct_1430 mtk_1430) hP hD [8, 9, 10, 11, 12, 13, 14, 15, 16, 17, 18] [0, 1, 2, 3, 4, 5, 6, 7, 19] rfl rfl (by decide) (by decide) hk1 hFc hP1 hD1
        have hP := hP.sub (ws' := LMw cA a0 aR aM aW aP aS aC aO nW nE cI cZ b0 bR bI bC bY bZ bF bL bN bX bT cL aL R f us P S sc li rc_1412 rn_1412 ro_1412 rd_1412 st mcd_1430 mwd men mR mI mC mY mZ mF mmd mhi mL mN mfr mX_1430 mT_1430 mct_1430 mtk_1430 ot_1412) [0, 1, 2, 3, 4, 5, 6, 7, 9, 10, 11, 12, 13, 14, 15, 16, 17, 18, 19, 8] rfl
        have hD := hD.sub (ws' := LMw cA a0 aR aM aW aP aS aC aO nW nE cI cZ b0 bR bI bC bY bZ bF bL bN bX bT cL aL R f us P S sc li rc_1412 rn_1412 ro_1412 rd_1412 st mcd_1430 mwd men mR mI mC mY mZ mF mmd mhi mL mN mfr mX_1430 mT_1430 mct_1430 mtk_1430 ot_1412) [0, 1, 2, 3, 4, 5, 6, 7, 9, 10, 11, 12, 13, 14, 15, 16, 17, 18, 19, 8] (by decide) rfl
        generalize H1 = H at hP hS ⊢
        clear hPc hDc hKc hFc hP1 hD1 hK1 hk1
        try dsimp only at h
        refine lv_istore (lv' := [(6, .int r1430), (5, .int r1412), (0, .ref b), (1, .ref a0), (2, .ref b0), (3, .ref aL), (4, .int x4)]) hx hb d_L_law_1433 hl (by decide) rfl (fun ls hl => ?_)
        refine lv_aload_n hx hb d_L_law_1435 rfl (lv_at hl 4 rfl) ?_
        have hPc := hP.sub (ws' := RSw cI cZ b0 bR bI bC bY bZ bF bL bN bX bT mcd_1430 mwd men mR mI mC mY mZ mF mmd mhi mL mN mfr mX_1430 mT_1430 mct_1430 mtk_1430) [8, 9, 10, 11, 12, 13, 14, 15, 16, 17, 18] rfl
        have hKc := hK.sub (tys' := [(cI, .int), (cZ, .boolean)]) [1, 2] rfl
        refine rq_calli (W.runV (As := []) (rest := []) ⟨hx, hb, hml, hown, hw⟩ (mR_thrown l dC dI cI cZ b0 bR bI bC bY bZ bF bL bN bX bT mcd_1430 mwd men mR mI mC mY mZ mF mmd mhi mL mN mfr mX_1430 mT_1430 mct_1430 mtk_1430 _ h) (cwV 0 hw g_L_103 rfl rfl rfl (by decide +kernel) ⟨Nat.le_of_ble_eq_true rfl, Nat.le_of_ble_eq_true rfl⟩) (ro_PV (ci := 2) (q0 := 0) hKc hPc rfl rfl) rfl rfl hl.1 rfl (lv_room (Nat.le_of_ble_eq_true rfl)) d_L_law_1436 ⟨by show 20 + 8 * (513 - (n + 1)) + 4 + 0 + 0 ≤ 601024; omega, by show 286816 + 48 * (513 - (n + 1)) + 24 + 0 + 0 ≤ 7293000; omega⟩) (fun r1436 h => ?_)
        clear hPc hKc
        refine lv_iload hx hb d_L_law_1439 (lv_at hl 1 rfl) ?_
        refine lv_icmp_eq (tgt := 1446) hx hb d_L_law_1441 (by decide) (fun c_1441 => ?_) (fun c_1441 => ?_)
        · have h := h.1 c_1441
          refine lv_iload hx hb d_L_law_1446 (lv_at hl 1 rfl) ?_
          refine lv_if_ne (tgt := 1470) hx hb d_L_law_1448 (by decide) (fun c_1448 => ?_) (fun c_1448 => ?_)
          · have h := h.2 c_1448
            refine lv_goto (tgt := 1529) hx hb d_L_law_1470 (by decide) ?_
            refine lv_iinc (v := x4 + (5 : Int32)) (lv' := [(4, .int (x4 + (5 : Int32))), (6, .int r1430), (5, .int r1412), (0, .ref b), (1, .ref a0), (2, .ref b0), (3, .ref aL)]) hx hb d_L_law_1529 hl (k := 6) rfl rfl (by decide) rfl (fun ls hl => ?_)
            refine lv_goto (tgt := 43) hx hb d_L_law_1532 (by decide) ?_
            refine W.widen (k := 20 + 8 * (513 - n)) (n := 286816 + 48 * (513 - n)) (by omega) (by omega) ?_
            exact ih (by omega) (x4 + (5 : Int32)) R f us P S sc li rc_1412 rn_1412 ro_1412 rd_1412 st mcd_1430 mwd men mR mI mC mY mZ mF mmd mhi mL mN mfr mX_1430 mT_1430 mct_1430 mtk_1430 ot_1412 H locs ls hP hD hS (lv_sub hl [3, 4, 5, 6, 0] rfl) h
          · have h := h.1 c_1448
            refine lv_aload_n hx hb d_L_law_1451 rfl (lv_at hl 5 rfl) ?_
            refine lv_iconst (v := (0 : Int32)) hx hb d_L_law_1452 (by decide) ?_
            refine va_lald hx hb hK hP 19 3 rfl rfl h.1 d_L_law_1453 ?_
            have h := h.2
            refine lv_iload hx hb d_L_law_1454 (lv_at hl 0 rfl) ?_
            refine lv_if_eq (tgt := 1463) hx hb d_L_law_1456 (by decide) (fun c_1456 => ?_) (fun c_1456 => ?_)
            · have h := h.1 c_1456
              refine lv_lconst (v := (0 : Int64)) hx hb d_L_law_1463 (by decide) ?_
              refine W.lcmp hx hb d_L_law_1464 ?_
              refine lv_if_eq (tgt := 1470) hx hb d_L_law_1465 (by decide) (fun c_1465 => ?_) (fun c_1465 => ?_)
              · have h := h.1 c_1465
                refine lv_goto (tgt := 1529) hx hb d_L_law_1470 (by decide) ?_
                refine lv_iinc (v := x4 + (5 : Int32)) (lv' := [(4, .int (x4 + (5 : Int32))), (6, .int r1430), (5, .int r1412), (0, .ref b), (1, .ref a0), (2, .ref b0), (3, .ref aL)]) hx hb d_L_law_1529 hl (k := 6) rfl rfl (by decide) rfl (fun ls hl => ?_)
                refine lv_goto (tgt := 43) hx hb d_L_law_1532 (by decide) ?_
                refine W.widen (k := 20 + 8 * (513 - n)) (n := 286816 + 48 * (513 - n)) (by omega) (by omega) ?_
                exact ih (by omega) (x4 + (5 : Int32)) R f us P S sc li rc_1412 rn_1412 ro_1412 rd_1412 st mcd_1430 mwd men mR mI mC mY mZ mF mmd mhi mL mN mfr mX_1430 mT_1430 mct_1430 mtk_1430 ot_1412 H locs ls hP hD hS (lv_sub hl [3, 4, 5, 6, 0] rfl) h
              · have h := h.2 c_1465
                refine lv_iconst (v := (0 : Int32)) hx hb d_L_law_1468 (by decide) ?_
                exact h.elim
            · have h := h.2 c_1456
              refine lv_lconst (v := (1 : Int64)) hx hb d_L_law_1459 (by decide) ?_
              refine lv_goto (tgt := 1464) hx hb d_L_law_1460 (by decide) ?_
              refine W.lcmp hx hb d_L_law_1464 ?_
              refine lv_if_eq (tgt := 1470) hx hb d_L_law_1465 (by decide) (fun c_1465 => ?_) (fun c_1465 => ?_)
              · have h := h.1 c_1465
                refine lv_goto (tgt := 1529) hx hb d_L_law_1470 (by decide) ?_
                refine lv_iinc (v := x4 + (5 : Int32)) (lv' := [(4, .int (x4 + (5 : Int32))), (6, .int r1430), (5, .int r1412), (0, .ref b), (1, .ref a0), (2, .ref b0), (3, .ref aL)]) hx hb d_L_law_1529 hl (k := 6) rfl rfl (by decide) rfl (fun ls hl => ?_)
                refine lv_goto (tgt := 43) hx hb d_L_law_1532 (by decide) ?_
                refine W.widen (k := 20 + 8 * (513 - n)) (n := 286816 + 48 * (513 - n)) (by omega) (by omega) ?_
                exact ih (by omega) (x4 + (5 : Int32)) R f us P S sc li rc_1412 rn_1412 ro_1412 rd_1412 st mcd_1430 mwd men mR mI mC mY mZ mF mmd mhi mL mN mfr mX_1430 mT_1430 mct_1430 mtk_1430 ot_1412 H locs ls hP hD hS (lv_sub hl [3, 4, 5, 6, 0] rfl) h
              · have h := h.2 c_1465
                refine lv_iconst (v := (0 : Int32)) hx hb d_L_law_1468 (by decide) ?_
                exact h.elim
        · have h := h.2 c_1441
          refine lv_iconst (v := (0 : Int32)) hx hb d_L_law_1444 (by decide) ?_
          exact h.elim
      · refine lv_tableIn (tgt := 1473) hx hb d_L_law_59 (by decide) (by decide) rfl (by decide) ?_
        have h := h.2.2.2.2.2.2.2.2.2.2.2.2.2.2.2.2.2.2.2.2.2.2.1 rfl
        refine lv_aload_n hx hb d_L_law_1473 rfl (lv_at hl 1 rfl) ?_
        refine lv_aload_n hx hb d_L_law_1474 rfl (lv_at hl 0 rfl) ?_
        refine lv_iload hx hb d_L_law_1475 (lv_at hl 4 rfl) ?_
        refine lv_iconst (v := (1 : Int32)) hx hb d_L_law_1477 (by decide) ?_
        refine lv_iadd hx hb d_L_law_1478 ?_
        refine va_sld hx hb hX hbl hbA hS h.1 d_L_law_1479 ?_
        have h := h.2
        refine lv_aload_n hx hb d_L_law_1480 rfl (lv_at hl 3 rfl) ?_
        have hPc := hP.sub (ws' := LHw cA a0 aR aM aW aP aS aC aO nW nE cL aL R f us P S sc li rc rn ro rd st ot) [0, 1, 2, 3, 4, 5, 6, 7, 19] rfl
        have hKc := hK.sub (tys' := [(cA, .int), (cL, .long)]) [0, 3] rfl
        have hDc := hD.sub (ws' := LHw cA a0 aR aM aW aP aS aC aO nW nE cL aL R f us P S sc li rc rn ro rd st ot) [0, 1, 2, 3, 4, 5, 6, 7, 19] (by decide) rfl
        have hFc := va_free (wc := LHw cA a0 aR aM aW aP aS aC aO nW nE cL aL R f us P S sc li rc rn ro rd st ot) hD hS hA [0, 1, 2, 3, 4, 5, 6, 7, 19] rfl
        refine va_calli (vx_runSW (As := [.ref a0, .int (xs (x4 + (1 : Int32)).toNatClampNeg), .ref aL]) (rest := []) ⟨hx, hb, hml, hown, hw⟩ (mL_sum l hlT sa dC dI cA a0 aR aM aW aP aS aC aO nW nE cL aL H.size R f us P S sc li rc rn ro rd st ot (xs (x4 + (1 : Int32)).toNatClampNeg) _ h) (vx_cwSW 3 hw g_L_182 rfl rfl rfl (by decide +kernel) ⟨Nat.le_of_ble_eq_true rfl, Nat.le_of_ble_eq_true rfl⟩) (xh_PS hKc hPc hDc (xt_at hXT hS) hFc hNC) rfl rfl hl.1 rfl (lv_room (Nat.le_of_ble_eq_true rfl)) d_L_law_1481 ⟨by show 20 + 8 * (513 - (n + 1)) + 1 ≤ 601024; omega, by show 286816 + 48 * (513 - (n + 1)) + 6 ≤ 7293000; omega⟩) hS (fun q _ h => hFc q h) hFc (fun r1481 u t H1 locs ht hvm h hB hz1 hk1 hS => ?_)
        obtain ⟨ot_1481, rfl⟩ : ∃ z, z = u := ⟨_, rfl⟩
        obtain ⟨hP1, hK1, hD1⟩ := hB
        rw [ht] at hP1
        obtain ⟨hP, hD⟩ := va_join (wr := [(b0, .inr (2, [.int mcd, .int mwd, .int men, .ref bR, .ref bI, .ref bC, .ref bY, .ref bZ, .ref bF, .int mmd, .int mhi, .ref bL, .ref bN, .int mfr, .ref bX, .ref bT, .int mct, .int mtk])), (bR, .inl (cI, 32, .inl mR)), (bI, .inl (cI, 8192, .inl mI)), (bC, .inl (cI, 8192, .inl mC)), (bY, .inl (cZ, 8192, .inl mY)), (bZ, .inl (cI, 8192, .inl mZ)), (bF, .inl (cI, 8192, .inl mF)), (bL, .inl (cI, 65536, .inl mL)), (bN, .inl (cI, 65536, .inl mN)), (bX, .inl (cZ, 8192, .inl mX)), (bT, .inl (cI, 8192, .inl mT))]) (w1 := LHw cA a0 aR aM aW aP aS aC aO nW nE cL aL R f us P S sc li rc rn ro rd st ot_1481) hP hD [0, 1, 2, 3, 4, 5, 6, 7, 19] [8, 9, 10, 11, 12, 13, 14, 15, 16, 17, 18] rfl rfl (by decide) (by decide) hk1 hFc hP1 hD1
        have hP := hP.sub (ws' := LMw cA a0 aR aM aW aP aS aC aO nW nE cI cZ b0 bR bI bC bY bZ bF bL bN bX bT cL aL R f us P S sc li rc rn ro rd st mcd mwd men mR mI mC mY mZ mF mmd mhi mL mN mfr mX mT mct mtk ot_1481) [11, 12, 13, 14, 15, 16, 17, 18, 0, 1, 2, 3, 4, 5, 6, 7, 8, 9, 10, 19] rfl
        have hD := hD.sub (ws' := LMw cA a0 aR aM aW aP aS aC aO nW nE cI cZ b0 bR bI bC bY bZ bF bL bN bX bT cL aL R f us P S sc li rc rn ro rd st mcd mwd men mR mI mC mY mZ mF mmd mhi mL mN mfr mX mT mct mtk ot_1481) [11, 12, 13, 14, 15, 16, 17, 18, 0, 1, 2, 3, 4, 5, 6, 7, 8, 9, 10, 19] (by decide) rfl
        generalize H1 = H at hP hS ⊢
        clear hPc hDc hKc hFc hP1 hD1 hK1 hk1
        try dsimp only at h
        refine lv_istore (lv' := [(5, .int r1481), (0, .ref b), (1, .ref a0), (2, .ref b0), (3, .ref aL), (4, .int x4)]) hx hb d_L_law_1484 hl (by decide) rfl (fun ls hl => ?_)
        refine lv_aload_n hx hb d_L_law_1486 rfl (lv_at hl 3 rfl) ?_
        refine lv_aload_n hx hb d_L_law_1487 rfl (lv_at hl 1 rfl) ?_
        refine lv_iload hx hb d_L_law_1488 (lv_at hl 5 rfl) ?_
        refine lv_iconst (v := (1 : Int32)) hx hb d_L_law_1490 (by decide) ?_
        refine lv_iadd hx hb d_L_law_1491 ?_
        refine va_sld hx hb hX hbl hbA hS h.1 d_L_law_1492 ?_
        have h := h.2
        have hPc := hP.sub (ws' := RSw cI cZ b0 bR bI bC bY bZ bF bL bN bX bT mcd mwd men mR mI mC mY mZ mF mmd mhi mL mN mfr mX mT mct mtk) [8, 9, 10, 11, 12, 13, 14, 15, 16, 17, 18] rfl
        have hKc := hK.sub (tys' := [(cI, .int), (cZ, .boolean)]) [1, 2] rfl
        have hDc := hD.sub (ws' := RSw cI cZ b0 bR bI bC bY bZ bF bL bN bX bT mcd mwd men mR mI mC mY mZ mF mmd mhi mL mN mfr mX mT mct mtk) [8, 9, 10, 11, 12, 13, 14, 15, 16, 17, 18] (by decide) rfl
        have hFc := va_free (wc := RSw cI cZ b0 bR bI bC bY bZ bF bL bN bX bT mcd mwd men mR mI mC mY mZ mF mmd mhi mL mN mfr mX mT mct mtk) hD hS hA [8, 9, 10, 11, 12, 13, 14, 15, 16, 17, 18] rfl
        refine va_calli (va_runV (As := [.int (xs (x4 + (1 : Int32)).toNatClampNeg)]) (rest := []) ⟨hx, hb, hml, hown, hw⟩ (mR_sum l dC dI cI cZ b0 bR bI bC bY bZ bF bL bN bX bT H.size mcd mwd men mR mI mC mY mZ mF mmd mhi mL mN mfr mX mT mct mtk (xs (x4 + (1 : Int32)).toNatClampNeg) _ h) (cwV 1 hw g_L_184 rfl rfl rfl (by decide +kernel) ⟨Nat.le_of_ble_eq_true rfl, Nat.le_of_ble_eq_true rfl⟩) (rw_PV (ci := 2) (q0 := 0) hKc hPc hDc rfl rfl) rfl rfl hl.1 rfl (lv_room (Nat.le_of_ble_eq_true rfl)) d_L_law_1493 ⟨by show 20 + 8 * (513 - (n + 1)) + 1 + 0 ≤ 601024; omega, by show 286816 + 48 * (513 - (n + 1)) + 6 + 0 ≤ 7293000; omega⟩) hS (fun q _ h => hFc q h) hFc (fun r1493 u t H1 locs ht hvm h hB hz1 hk1 hS => ?_)
        obtain ⟨mcd_1493, rfl⟩ : ∃ z, z = u := ⟨_, rfl⟩
        obtain ⟨hP1, hK1, hD1⟩ := hB
        rw [ht] at hP1
        obtain ⟨hP, hD⟩ := va_join (wr := [(a0, .inr (0, [.ref aR, .ref aM])), (aR, .inl (cA, 32, .inl R)), (aM, .inr (1, [.ref aW, .int us, .ref aP, .ref aS, .int sc, .int li, .ref aC, .int rn, .ref aO, .int rd, .int st])), (aW, .inl (cA, nW, .inl f)), (aP, .inl (cA, nE, .inl P)), (aS, .inl (cA, nE, .inl S)), (aC, .inl (cA, nE, .inl rc)), (aO, .inl (cA, nE, .inl ro)), (aL, .inl (cL, 1, .inr (.inl ot_1481)))]) (w1 := RSw cI cZ b0 bR bI bC bY bZ bF bL bN bX bT mcd_1493 mwd men mR mI mC mY mZ mF mmd mhi mL mN mfr mX mT mct mtk) hP hD [8, 9, 10, 11, 12, 13, 14, 15, 16, 17, 18] [0, 1, 2, 3, 4, 5, 6, 7, 19] rfl rfl (by decide) (by decide) hk1 hFc hP1 hD1
        have hP := hP.sub (ws' := LMw cA a0 aR aM aW aP aS aC aO nW nE cI cZ b0 bR bI bC bY bZ bF bL bN bX bT cL aL R f us P S sc li rc rn ro rd st mcd_1493 mwd men mR mI mC mY mZ mF mmd mhi mL mN mfr mX mT mct mtk ot_1481) [0, 1, 2, 3, 4, 5, 6, 7, 9, 10, 11, 12, 13, 14, 15, 16, 17, 18, 19, 8] rfl
        have hD := hD.sub (ws' := LMw cA a0 aR aM aW aP aS aC aO nW nE cI cZ b0 bR bI bC bY bZ bF bL bN bX bT cL aL R f us P S sc li rc rn ro rd st mcd_1493 mwd men mR mI mC mY mZ mF mmd mhi mL mN mfr mX mT mct mtk ot_1481) [0, 1, 2, 3, 4, 5, 6, 7, 9, 10, 11, 12, 13, 14, 15, 16, 17, 18, 19, 8] (by decide) rfl
        generalize H1 = H at hP hS ⊢
        clear hPc hDc hKc hFc hP1 hD1 hK1 hk1
        try dsimp only at h
        refine lv_istore (lv' := [(6, .int r1493), (5, .int r1481), (0, .ref b), (1, .ref a0), (2, .ref b0), (3, .ref aL), (4, .int x4)]) hx hb d_L_law_1496 hl (by decide) rfl (fun ls hl => ?_)
        refine lv_aload_n hx hb d_L_law_1498 rfl (lv_at hl 4 rfl) ?_
        have hPc := hP.sub (ws' := RSw cI cZ b0 bR bI bC bY bZ bF bL bN bX bT mcd_1493 mwd men mR mI mC mY mZ mF mmd mhi mL mN mfr mX mT mct mtk) [8, 9, 10, 11, 12, 13, 14, 15, 16, 17, 18] rfl
        have hKc := hK.sub (tys' := [(cI, .int), (cZ, .boolean)]) [1, 2] rfl
        refine rq_calli (W.runV (As := []) (rest := []) ⟨hx, hb, hml, hown, hw⟩ (mR_thrown l dC dI cI cZ b0 bR bI bC bY bZ bF bL bN bX bT mcd_1493 mwd men mR mI mC mY mZ mF mmd mhi mL mN mfr mX mT mct mtk _ h) (cwV 0 hw g_L_103 rfl rfl rfl (by decide +kernel) ⟨Nat.le_of_ble_eq_true rfl, Nat.le_of_ble_eq_true rfl⟩) (ro_PV (ci := 2) (q0 := 0) hKc hPc rfl rfl) rfl rfl hl.1 rfl (lv_room (Nat.le_of_ble_eq_true rfl)) d_L_law_1499 ⟨by show 20 + 8 * (513 - (n + 1)) + 1 + 0 + 0 ≤ 601024; omega, by show 286816 + 48 * (513 - (n + 1)) + 6 + 0 + 0 ≤ 7293000; omega⟩) (fun r1499 h => ?_)
        clear hPc hKc
        refine lv_iload hx hb d_L_law_1502 (lv_at hl 1 rfl) ?_
        refine lv_icmp_eq (tgt := 1509) hx hb d_L_law_1504 (by decide) (fun c_1504 => ?_) (fun c_1504 => ?_)
        · have h := h.1 c_1504
          refine lv_iload hx hb d_L_law_1509 (lv_at hl 1 rfl) ?_
          refine lv_if_ne (tgt := 1526) hx hb d_L_law_1511 (by decide) (fun c_1511 => ?_) (fun c_1511 => ?_)
          · have h := h.2 c_1511
            refine lv_goto (tgt := 1529) hx hb d_L_law_1526 (by decide) ?_
            refine lv_iinc (v := x4 + (5 : Int32)) (lv' := [(4, .int (x4 + (5 : Int32))), (6, .int r1493), (5, .int r1481), (0, .ref b), (1, .ref a0), (2, .ref b0), (3, .ref aL)]) hx hb d_L_law_1529 hl (k := 6) rfl rfl (by decide) rfl (fun ls hl => ?_)
            refine lv_goto (tgt := 43) hx hb d_L_law_1532 (by decide) ?_
            refine W.widen (k := 20 + 8 * (513 - n)) (n := 286816 + 48 * (513 - n)) (by omega) (by omega) ?_
            exact ih (by omega) (x4 + (5 : Int32)) R f us P S sc li rc rn ro rd st mcd_1493 mwd men mR mI mC mY mZ mF mmd mhi mL mN mfr mX mT mct mtk ot_1481 H locs ls hP hD hS (lv_sub hl [3, 4, 5, 6, 0] rfl) h
          · have h := h.1 c_1511
            refine lv_aload_n hx hb d_L_law_1514 rfl (lv_at hl 5 rfl) ?_
            refine lv_iconst (v := (0 : Int32)) hx hb d_L_law_1515 (by decide) ?_
            refine va_lald hx hb hK hP 19 3 rfl rfl h.1 d_L_law_1516 ?_
            have h := h.2
            refine lv_iload hx hb d_L_law_1517 (lv_at hl 0 rfl) ?_
            refine lv_i2l (v := r1493.toInt64) hx hb d_L_law_1519 rfl ?_
            refine W.lcmp hx hb d_L_law_1520 ?_
            refine lv_if_eq (tgt := 1526) hx hb d_L_law_1521 (by decide) (fun c_1521 => ?_) (fun c_1521 => ?_)
            · have h := h.1 c_1521
              refine lv_goto (tgt := 1529) hx hb d_L_law_1526 (by decide) ?_
              refine lv_iinc (v := x4 + (5 : Int32)) (lv' := [(4, .int (x4 + (5 : Int32))), (6, .int r1493), (5, .int r1481), (0, .ref b), (1, .ref a0), (2, .ref b0), (3, .ref aL)]) hx hb d_L_law_1529 hl (k := 6) rfl rfl (by decide) rfl (fun ls hl => ?_)
              refine lv_goto (tgt := 43) hx hb d_L_law_1532 (by decide) ?_
              refine W.widen (k := 20 + 8 * (513 - n)) (n := 286816 + 48 * (513 - n)) (by omega) (by omega) ?_
              exact ih (by omega) (x4 + (5 : Int32)) R f us P S sc li rc rn ro rd st mcd_1493 mwd men mR mI mC mY mZ mF mmd mhi mL mN mfr mX mT mct mtk ot_1481 H locs ls hP hD hS (lv_sub hl [3, 4, 5, 6, 0] rfl) h
            · have h := h.2 c_1521
              refine lv_iconst (v := (0 : Int32)) hx hb d_L_law_1524 (by decide) ?_
              exact h.elim
        · have h := h.2 c_1504
          refine lv_iconst (v := (0 : Int32)) hx hb d_L_law_1507 (by decide) ?_
          exact h.elim
      · have hjt : (nI j).toInt = (j : Int) := nI_toInt (by omega)
        refine lv_tableOut (tgt := 1529) hx hb d_L_law_59 (Or.inr (by rw [hjt]; omega)) (by decide) ?_
        have h := h.2.2.2.2.2.2.2.2.2.2.2.2.2.2.2.2.2.2.2.2.2.2.2 (by rw [hjt]; omega)
        refine lv_iinc (v := x4 + (5 : Int32)) (lv' := [(4, .int (x4 + (5 : Int32))), (0, .ref b), (1, .ref a0), (2, .ref b0), (3, .ref aL)]) hx hb d_L_law_1529 hl (k := 4) rfl rfl (by decide) rfl (fun ls hl => ?_)
        refine lv_goto (tgt := 43) hx hb d_L_law_1532 (by decide) ?_
        refine W.widen (k := 20 + 8 * (513 - n)) (n := 286816 + 48 * (513 - n)) (by omega) (by omega) ?_
        exact ih (by omega) (x4 + (5 : Int32)) R f us P S sc li rc rn ro rd st mcd mwd men mR mI mC mY mZ mF mmd mhi mL mN mfr mX mT mct mtk ot H locs ls hP hD hS (lv_sub hl [1, 2, 3, 4, 0] rfl) h

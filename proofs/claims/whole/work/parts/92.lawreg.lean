abbrev iLw (nm : String) : MI := (⟨RL, nm, "([I)Z"⟩, code, 4, ret)
set_option maxRecDepth 20000 in
theorem rg_L_law_18 {g : OG} {L : Nat} {xs : Nat → Int32} {nm : String} (hscr : scr_xs g L xs) {d : Nat} {I : IT} {X : XT} {K : Int32 → IT → XT → Prop} {l3 : Int32} 
    (H : (((nI L) - 6) < l3 →
        SR g (d + 1) (iLw nm) 1395 [] I X (qI K)) ∧
      (¬ ((nI L) - 6) < l3 →
        vp_in l3 L ∧
        (((xs l3.toNatClampNeg) &&& 63) = 0 →
          SR g (d + 1) (iLw nm) 224 [(0, .ref (og_s g)), (1, rf g 1), (2, rf g 129), (3, .int l3)] I X (qI K)) ∧
        (¬ ((xs l3.toNatClampNeg) &&& 63) = 0 →
          (((xs l3.toNatClampNeg) &&& 63) = 1 →
          SR g (d + 1) (iLw nm) 257 [(0, .ref (og_s g)), (1, rf g 1), (2, rf g 129), (3, .int l3)] I X (qI K)) ∧
        (¬ ((xs l3.toNatClampNeg) &&& 63) = 1 →
          (((xs l3.toNatClampNeg) &&& 63) = 2 →
          SR g (d + 1) (iLw nm) 300 [(0, .ref (og_s g)), (1, rf g 1), (2, rf g 129), (3, .int l3)] I X (qI K)) ∧
        (¬ ((xs l3.toNatClampNeg) &&& 63) = 2 →
          (((xs l3.toNatClampNeg) &&& 63) = 3 →
          SR g (d + 1) (iLw nm) 333 [(0, .ref (og_s g)), (1, rf g 1), (2, rf g 129), (3, .int l3)] I X (qI K)) ∧
        (¬ ((xs l3.toNatClampNeg) &&& 63) = 3 →
          (((xs l3.toNatClampNeg) &&& 63) = 4 →
          SR g (d + 1) (iLw nm) 356 [(0, .ref (og_s g)), (1, rf g 1), (2, rf g 129), (3, .int l3)] I X (qI K)) ∧
        (¬ ((xs l3.toNatClampNeg) &&& 63) = 4 →
          (((xs l3.toNatClampNeg) &&& 63) = 5 →
          SR g (d + 1) (iLw nm) 419 [(0, .ref (og_s g)), (1, rf g 1), (2, rf g 129), (3, .int l3)] I X (qI K)) ∧
        (¬ ((xs l3.toNatClampNeg) &&& 63) = 5 →
          (((xs l3.toNatClampNeg) &&& 63) = 6 →
          SR g (d + 1) (iLw nm) 442 [(0, .ref (og_s g)), (1, rf g 1), (2, rf g 129), (3, .int l3)] I X (qI K)) ∧
        (¬ ((xs l3.toNatClampNeg) &&& 63) = 6 →
          (((xs l3.toNatClampNeg) &&& 63) = 7 →
          SR g (d + 1) (iLw nm) 475 [(0, .ref (og_s g)), (1, rf g 1), (2, rf g 129), (3, .int l3)] I X (qI K)) ∧
        (¬ ((xs l3.toNatClampNeg) &&& 63) = 7 →
          (((xs l3.toNatClampNeg) &&& 63) = 8 →
          SR g (d + 1) (iLw nm) 518 [(0, .ref (og_s g)), (1, rf g 1), (2, rf g 129), (3, .int l3)] I X (qI K)) ∧
        (¬ ((xs l3.toNatClampNeg) &&& 63) = 8 →
          (((xs l3.toNatClampNeg) &&& 63) = 9 →
          SR g (d + 1) (iLw nm) 541 [(0, .ref (og_s g)), (1, rf g 1), (2, rf g 129), (3, .int l3)] I X (qI K)) ∧
        (¬ ((xs l3.toNatClampNeg) &&& 63) = 9 →
          (((xs l3.toNatClampNeg) &&& 63) = 10 →
          SR g (d + 1) (iLw nm) 564 [(0, .ref (og_s g)), (1, rf g 1), (2, rf g 129), (3, .int l3)] I X (qI K)) ∧
        (¬ ((xs l3.toNatClampNeg) &&& 63) = 10 →
          (((xs l3.toNatClampNeg) &&& 63) = 11 →
          SR g (d + 1) (iLw nm) 597 [(0, .ref (og_s g)), (1, rf g 1), (2, rf g 129), (3, .int l3)] I X (qI K)) ∧
        (¬ ((xs l3.toNatClampNeg) &&& 63) = 11 →
          (((xs l3.toNatClampNeg) &&& 63) = 12 →
          SR g (d + 1) (iLw nm) 620 [(0, .ref (og_s g)), (1, rf g 1), (2, rf g 129), (3, .int l3)] I X (qI K)) ∧
        (¬ ((xs l3.toNatClampNeg) &&& 63) = 12 →
          (((xs l3.toNatClampNeg) &&& 63) = 13 →
          SR g (d + 1) (iLw nm) 653 [(0, .ref (og_s g)), (1, rf g 1), (2, rf g 129), (3, .int l3)] I X (qI K)) ∧
        (¬ ((xs l3.toNatClampNeg) &&& 63) = 13 →
          (((xs l3.toNatClampNeg) &&& 63) = 14 →
          SR g (d + 1) (iLw nm) 686 [(0, .ref (og_s g)), (1, rf g 1), (2, rf g 129), (3, .int l3)] I X (qI K)) ∧
        (¬ ((xs l3.toNatClampNeg) &&& 63) = 14 →
          (((xs l3.toNatClampNeg) &&& 63) = 15 →
          SR g (d + 1) (iLw nm) 709 [(0, .ref (og_s g)), (1, rf g 1), (2, rf g 129), (3, .int l3)] I X (qI K)) ∧
        (¬ ((xs l3.toNatClampNeg) &&& 63) = 15 →
          (((xs l3.toNatClampNeg) &&& 63) = 16 →
          SR g (d + 1) (iLw nm) 742 [(0, .ref (og_s g)), (1, rf g 1), (2, rf g 129), (3, .int l3)] I X (qI K)) ∧
        (¬ ((xs l3.toNatClampNeg) &&& 63) = 16 →
          (((xs l3.toNatClampNeg) &&& 63) = 17 →
          SR g (d + 1) (iLw nm) 755 [(0, .ref (og_s g)), (1, rf g 1), (2, rf g 129), (3, .int l3)] I X (qI K)) ∧
        (¬ ((xs l3.toNatClampNeg) &&& 63) = 17 →
          (((xs l3.toNatClampNeg) &&& 63) = 18 →
          SR g (d + 1) (iLw nm) 778 [(0, .ref (og_s g)), (1, rf g 1), (2, rf g 129), (3, .int l3)] I X (qI K)) ∧
        (¬ ((xs l3.toNatClampNeg) &&& 63) = 18 →
          (((xs l3.toNatClampNeg) &&& 63) = 19 →
          SR g (d + 1) (iLw nm) 801 [(0, .ref (og_s g)), (1, rf g 1), (2, rf g 129), (3, .int l3)] I X (qI K)) ∧
        (¬ ((xs l3.toNatClampNeg) &&& 63) = 19 →
          (((xs l3.toNatClampNeg) &&& 63) = 20 →
          SR g (d + 1) (iLw nm) 824 [(0, .ref (og_s g)), (1, rf g 1), (2, rf g 129), (3, .int l3)] I X (qI K)) ∧
        (¬ ((xs l3.toNatClampNeg) &&& 63) = 20 →
          (((xs l3.toNatClampNeg) &&& 63) = 21 →
          SR g (d + 1) (iLw nm) 837 [(0, .ref (og_s g)), (1, rf g 1), (2, rf g 129), (3, .int l3)] I X (qI K)) ∧
        (¬ ((xs l3.toNatClampNeg) &&& 63) = 21 →
          (((xs l3.toNatClampNeg) &&& 63) = 22 →
          SR g (d + 1) (iLw nm) 850 [(0, .ref (og_s g)), (1, rf g 1), (2, rf g 129), (3, .int l3)] I X (qI K)) ∧
        (¬ ((xs l3.toNatClampNeg) &&& 63) = 22 →
          (((xs l3.toNatClampNeg) &&& 63) = 23 →
          SR g (d + 1) (iLw nm) 873 [(0, .ref (og_s g)), (1, rf g 1), (2, rf g 129), (3, .int l3)] I X (qI K)) ∧
        (¬ ((xs l3.toNatClampNeg) &&& 63) = 23 →
          (((xs l3.toNatClampNeg) &&& 63) = 24 →
          SR g (d + 1) (iLw nm) 886 [(0, .ref (og_s g)), (1, rf g 1), (2, rf g 129), (3, .int l3)] I X (qI K)) ∧
        (¬ ((xs l3.toNatClampNeg) &&& 63) = 24 →
          (((xs l3.toNatClampNeg) &&& 63) = 25 →
          SR g (d + 1) (iLw nm) 909 [(0, .ref (og_s g)), (1, rf g 1), (2, rf g 129), (3, .int l3)] I X (qI K)) ∧
        (¬ ((xs l3.toNatClampNeg) &&& 63) = 25 →
          (((xs l3.toNatClampNeg) &&& 63) = 26 →
          SR g (d + 1) (iLw nm) 932 [(0, .ref (og_s g)), (1, rf g 1), (2, rf g 129), (3, .int l3)] I X (qI K)) ∧
        (¬ ((xs l3.toNatClampNeg) &&& 63) = 26 →
          (((xs l3.toNatClampNeg) &&& 63) = 27 →
          SR g (d + 1) (iLw nm) 975 [(0, .ref (og_s g)), (1, rf g 1), (2, rf g 129), (3, .int l3)] I X (qI K)) ∧
        (¬ ((xs l3.toNatClampNeg) &&& 63) = 27 →
          (((xs l3.toNatClampNeg) &&& 63) = 28 →
          SR g (d + 1) (iLw nm) 1008 [(0, .ref (og_s g)), (1, rf g 1), (2, rf g 129), (3, .int l3)] I X (qI K)) ∧
        (¬ ((xs l3.toNatClampNeg) &&& 63) = 28 →
          (((xs l3.toNatClampNeg) &&& 63) = 29 →
          SR g (d + 1) (iLw nm) 1041 [(0, .ref (og_s g)), (1, rf g 1), (2, rf g 129), (3, .int l3)] I X (qI K)) ∧
        (¬ ((xs l3.toNatClampNeg) &&& 63) = 29 →
          (((xs l3.toNatClampNeg) &&& 63) = 30 →
          SR g (d + 1) (iLw nm) 1074 [(0, .ref (og_s g)), (1, rf g 1), (2, rf g 129), (3, .int l3)] I X (qI K)) ∧
        (¬ ((xs l3.toNatClampNeg) &&& 63) = 30 →
          (((xs l3.toNatClampNeg) &&& 63) = 31 →
          SR g (d + 1) (iLw nm) 1097 [(0, .ref (og_s g)), (1, rf g 1), (2, rf g 129), (3, .int l3)] I X (qI K)) ∧
        (¬ ((xs l3.toNatClampNeg) &&& 63) = 31 →
          (((xs l3.toNatClampNeg) &&& 63) = 32 →
          SR g (d + 1) (iLw nm) 1110 [(0, .ref (og_s g)), (1, rf g 1), (2, rf g 129), (3, .int l3)] I X (qI K)) ∧
        (¬ ((xs l3.toNatClampNeg) &&& 63) = 32 →
          (((xs l3.toNatClampNeg) &&& 63) = 33 →
          SR g (d + 1) (iLw nm) 1133 [(0, .ref (og_s g)), (1, rf g 1), (2, rf g 129), (3, .int l3)] I X (qI K)) ∧
        (¬ ((xs l3.toNatClampNeg) &&& 63) = 33 →
          (((xs l3.toNatClampNeg) &&& 63) = 34 →
          SR g (d + 1) (iLw nm) 1166 [(0, .ref (og_s g)), (1, rf g 1), (2, rf g 129), (3, .int l3)] I X (qI K)) ∧
        (¬ ((xs l3.toNatClampNeg) &&& 63) = 34 →
          (((xs l3.toNatClampNeg) &&& 63) = 35 →
          SR g (d + 1) (iLw nm) 1199 [(0, .ref (og_s g)), (1, rf g 1), (2, rf g 129), (3, .int l3)] I X (qI K)) ∧
        (¬ ((xs l3.toNatClampNeg) &&& 63) = 35 →
          (((xs l3.toNatClampNeg) &&& 63) = 36 →
          SR g (d + 1) (iLw nm) 1242 [(0, .ref (og_s g)), (1, rf g 1), (2, rf g 129), (3, .int l3)] I X (qI K)) ∧
        (¬ ((xs l3.toNatClampNeg) &&& 63) = 36 →
          (((xs l3.toNatClampNeg) &&& 63) = 37 →
          SR g (d + 1) (iLw nm) 1275 [(0, .ref (og_s g)), (1, rf g 1), (2, rf g 129), (3, .int l3)] I X (qI K)) ∧
        (¬ ((xs l3.toNatClampNeg) &&& 63) = 37 →
          (((xs l3.toNatClampNeg) &&& 63) = 38 →
          SR g (d + 1) (iLw nm) 1288 [(0, .ref (og_s g)), (1, rf g 1), (2, rf g 129), (3, .int l3)] I X (qI K)) ∧
        (¬ ((xs l3.toNatClampNeg) &&& 63) = 38 →
          (((xs l3.toNatClampNeg) &&& 63) = 39 →
          SR g (d + 1) (iLw nm) 1302 [(0, .ref (og_s g)), (1, rf g 1), (2, rf g 129), (3, .int l3)] I X (qI K)) ∧
        (¬ ((xs l3.toNatClampNeg) &&& 63) = 39 →
          (((xs l3.toNatClampNeg) &&& 63) = 40 →
          SR g (d + 1) (iLw nm) 1316 [(0, .ref (og_s g)), (1, rf g 1), (2, rf g 129), (3, .int l3)] I X (qI K)) ∧
        (¬ ((xs l3.toNatClampNeg) &&& 63) = 40 →
          (((xs l3.toNatClampNeg) &&& 63) = 41 →
          SR g (d + 1) (iLw nm) 1339 [(0, .ref (og_s g)), (1, rf g 1), (2, rf g 129), (3, .int l3)] I X (qI K)) ∧
        (¬ ((xs l3.toNatClampNeg) &&& 63) = 41 →
          (((xs l3.toNatClampNeg) &&& 63) = 42 →
          SR g (d + 1) (iLw nm) 1352 [(0, .ref (og_s g)), (1, rf g 1), (2, rf g 129), (3, .int l3)] I X (qI K)) ∧
        (¬ ((xs l3.toNatClampNeg) &&& 63) = 42 →
          (((xs l3.toNatClampNeg) &&& 63) = 43 →
          SR g (d + 1) (iLw nm) 1375 [(0, .ref (og_s g)), (1, rf g 1), (2, rf g 129), (3, .int l3)] I X (qI K)) ∧
        (¬ ((xs l3.toNatClampNeg) &&& 63) = 43 →
          SR g (d + 1) (iLw nm) 1389 [(0, .ref (og_s g)), (1, rf g 1), (2, rf g 129), (3, .int l3)] I X (qI K))))))))))))))))))))))))))))))))))))))))))))))) : SR g (d + 1) (iLw nm) 18 [(0, .ref (og_s g)), (1, rf g 1), (2, rf g 129), (3, .int l3)] I X (qI K) := by
  refine r_iload_n (n := 19) 3 dL_law_18 rfl rfl ?_
  refine r_aload_n (n := 20) 0 dL_law_19 rfl rfl ?_
  refine r_slen (n := 21) hscr dL_law_20 rfl ?_
  refine r_bipush (n := 23) (v := 6) dL_law_21 kb_6 rfl ?_
  refine r_isub (n := 24) dL_law_23 rfl ?_
  refine r_icmp_gt (n := 27) (tgt := 1395) dL_law_24 (by decide) rfl (fun c => ?_) (fun c => ?_)
  · have H := H.1 c
    exact r_sub [] rfl H
  · have H := H.2 c
    refine r_aload_n (n := 28) 0 dL_law_27 rfl rfl ?_
    refine r_iload_n (n := 29) 3 dL_law_28 rfl rfl ?_
    obtain ⟨hi1, H⟩ := H
    refine r_sld (n := 30) hscr hi1 dL_law_29 rfl ?_
    refine r_bipush (n := 32) (v := 63) dL_law_30 kb_63 rfl ?_
    refine r_iand (n := 33) dL_law_32 rfl ?_
    refine sw_split H (fun cs2 H => ?_) (fun cs2 H => ?_)
    · refine r_tcase (n := 224) (v := 0) (off := 191) dL_law_33 cs2 (by decide) (by decide) (by decide) ?_
      exact r_sub [0, 1, 2, 3] rfl H
    · skip
      refine sw_split H (fun cs3 H => ?_) (fun cs3 H => ?_)
      · refine r_tcase (n := 257) (v := 1) (off := 224) dL_law_33 cs3 (by decide) (by decide) (by decide) ?_
        exact r_sub [0, 1, 2, 3] rfl H
      · skip
        refine sw_split H (fun cs4 H => ?_) (fun cs4 H => ?_)
        · refine r_tcase (n := 300) (v := 2) (off := 267) dL_law_33 cs4 (by decide) (by decide) (by decide) ?_
          exact r_sub [0, 1, 2, 3] rfl H
        · skip
          refine sw_split H (fun cs5 H => ?_) (fun cs5 H => ?_)
          · refine r_tcase (n := 333) (v := 3) (off := 300) dL_law_33 cs5 (by decide) (by decide) (by decide) ?_
            exact r_sub [0, 1, 2, 3] rfl H
          · skip
            refine sw_split H (fun cs6 H => ?_) (fun cs6 H => ?_)
            · refine r_tcase (n := 356) (v := 4) (off := 323) dL_law_33 cs6 (by decide) (by decide) (by decide) ?_
              exact r_sub [0, 1, 2, 3] rfl H
            · skip
              refine sw_split H (fun cs7 H => ?_) (fun cs7 H => ?_)
              · refine r_tcase (n := 419) (v := 5) (off := 386) dL_law_33 cs7 (by decide) (by decide) (by decide) ?_
                exact r_sub [0, 1, 2, 3] rfl H
              · skip
                refine sw_split H (fun cs8 H => ?_) (fun cs8 H => ?_)
                · refine r_tcase (n := 442) (v := 6) (off := 409) dL_law_33 cs8 (by decide) (by decide) (by decide) ?_
                  exact r_sub [0, 1, 2, 3] rfl H
                · skip
                  refine sw_split H (fun cs9 H => ?_) (fun cs9 H => ?_)
                  · refine r_tcase (n := 475) (v := 7) (off := 442) dL_law_33 cs9 (by decide) (by decide) (by decide) ?_
                    exact r_sub [0, 1, 2, 3] rfl H
                  · skip
                    refine sw_split H (fun cs10 H => ?_) (fun cs10 H => ?_)
                    · refine r_tcase (n := 518) (v := 8) (off := 485) dL_law_33 cs10 (by decide) (by decide) (by decide) ?_
                      exact r_sub [0, 1, 2, 3] rfl H
                    · skip
                      refine sw_split H (fun cs11 H => ?_) (fun cs11 H => ?_)
                      · refine r_tcase (n := 541) (v := 9) (off := 508) dL_law_33 cs11 (by decide) (by decide) (by decide) ?_
                        exact r_sub [0, 1, 2, 3] rfl H
                      · skip
                        refine sw_split H (fun cs12 H => ?_) (fun cs12 H => ?_)
                        · refine r_tcase (n := 564) (v := 10) (off := 531) dL_law_33 cs12 (by decide) (by decide) (by decide) ?_
                          exact r_sub [0, 1, 2, 3] rfl H
                        · skip
                          refine sw_split H (fun cs13 H => ?_) (fun cs13 H => ?_)
                          · refine r_tcase (n := 597) (v := 11) (off := 564) dL_law_33 cs13 (by decide) (by decide) (by decide) ?_
                            exact r_sub [0, 1, 2, 3] rfl H
                          · skip
                            refine sw_split H (fun cs14 H => ?_) (fun cs14 H => ?_)
                            · refine r_tcase (n := 620) (v := 12) (off := 587) dL_law_33 cs14 (by decide) (by decide) (by decide) ?_
                              exact r_sub [0, 1, 2, 3] rfl H
                            · skip
                              refine sw_split H (fun cs15 H => ?_) (fun cs15 H => ?_)
                              · refine r_tcase (n := 653) (v := 13) (off := 620) dL_law_33 cs15 (by decide) (by decide) (by decide) ?_
                                exact r_sub [0, 1, 2, 3] rfl H
                              · skip
                                refine sw_split H (fun cs16 H => ?_) (fun cs16 H => ?_)
                                · refine r_tcase (n := 686) (v := 14) (off := 653) dL_law_33 cs16 (by decide) (by decide) (by decide) ?_
                                  exact r_sub [0, 1, 2, 3] rfl H
                                · skip
                                  refine sw_split H (fun cs17 H => ?_) (fun cs17 H => ?_)
                                  · refine r_tcase (n := 709) (v := 15) (off := 676) dL_law_33 cs17 (by decide) (by decide) (by decide) ?_
                                    exact r_sub [0, 1, 2, 3] rfl H
                                  · skip
                                    refine sw_split H (fun cs18 H => ?_) (fun cs18 H => ?_)
                                    · refine r_tcase (n := 742) (v := 16) (off := 709) dL_law_33 cs18 (by decide) (by decide) (by decide) ?_
                                      exact r_sub [0, 1, 2, 3] rfl H
                                    · skip
                                      refine sw_split H (fun cs19 H => ?_) (fun cs19 H => ?_)
                                      · refine r_tcase (n := 755) (v := 17) (off := 722) dL_law_33 cs19 (by decide) (by decide) (by decide) ?_
                                        exact r_sub [0, 1, 2, 3] rfl H
                                      · skip
                                        refine sw_split H (fun cs20 H => ?_) (fun cs20 H => ?_)
                                        · refine r_tcase (n := 778) (v := 18) (off := 745) dL_law_33 cs20 (by decide) (by decide) (by decide) ?_
                                          exact r_sub [0, 1, 2, 3] rfl H
                                        · skip
                                          refine sw_split H (fun cs21 H => ?_) (fun cs21 H => ?_)
                                          · refine r_tcase (n := 801) (v := 19) (off := 768) dL_law_33 cs21 (by decide) (by decide) (by decide) ?_
                                            exact r_sub [0, 1, 2, 3] rfl H
                                          · skip
                                            refine sw_split H (fun cs22 H => ?_) (fun cs22 H => ?_)
                                            · refine r_tcase (n := 824) (v := 20) (off := 791) dL_law_33 cs22 (by decide) (by decide) (by decide) ?_
                                              exact r_sub [0, 1, 2, 3] rfl H
                                            · skip
                                              refine sw_split H (fun cs23 H => ?_) (fun cs23 H => ?_)
                                              · refine r_tcase (n := 837) (v := 21) (off := 804) dL_law_33 cs23 (by decide) (by decide) (by decide) ?_
                                                exact r_sub [0, 1, 2, 3] rfl H
                                              · skip
                                                refine sw_split H (fun cs24 H => ?_) (fun cs24 H => ?_)
                                                · refine r_tcase (n := 850) (v := 22) (off := 817) dL_law_33 cs24 (by decide) (by decide) (by decide) ?_
                                                  exact r_sub [0, 1, 2, 3] rfl H
                                                · skip
                                                  refine sw_split H (fun cs25 H => ?_) (fun cs25 H => ?_)
                                                  · refine r_tcase (n := 873) (v := 23) (off := 840) dL_law_33 cs25 (by decide) (by decide) (by decide) ?_
                                                    exact r_sub [0, 1, 2, 3] rfl H
                                                  · skip
                                                    refine sw_split H (fun cs26 H => ?_) (fun cs26 H => ?_)
                                                    · refine r_tcase (n := 886) (v := 24) (off := 853) dL_law_33 cs26 (by decide) (by decide) (by decide) ?_
                                                      exact r_sub [0, 1, 2, 3] rfl H
                                                    · skip
                                                      refine sw_split H (fun cs27 H => ?_) (fun cs27 H => ?_)
                                                      · refine r_tcase (n := 909) (v := 25) (off := 876) dL_law_33 cs27 (by decide) (by decide) (by decide) ?_
                                                        exact r_sub [0, 1, 2, 3] rfl H
                                                      · skip
                                                        refine sw_split H (fun cs28 H => ?_) (fun cs28 H => ?_)
                                                        · refine r_tcase (n := 932) (v := 26) (off := 899) dL_law_33 cs28 (by decide) (by decide) (by decide) ?_
                                                          exact r_sub [0, 1, 2, 3] rfl H
                                                        · skip
                                                          refine sw_split H (fun cs29 H => ?_) (fun cs29 H => ?_)
                                                          · refine r_tcase (n := 975) (v := 27) (off := 942) dL_law_33 cs29 (by decide) (by decide) (by decide) ?_
                                                            exact r_sub [0, 1, 2, 3] rfl H
                                                          · skip
                                                            refine sw_split H (fun cs30 H => ?_) (fun cs30 H => ?_)
                                                            · refine r_tcase (n := 1008) (v := 28) (off := 975) dL_law_33 cs30 (by decide) (by decide) (by decide) ?_
                                                              exact r_sub [0, 1, 2, 3] rfl H
                                                            · skip
                                                              refine sw_split H (fun cs31 H => ?_) (fun cs31 H => ?_)
                                                              · refine r_tcase (n := 1041) (v := 29) (off := 1008) dL_law_33 cs31 (by decide) (by decide) (by decide) ?_
                                                                exact r_sub [0, 1, 2, 3] rfl H
                                                              · skip
                                                                refine sw_split H (fun cs32 H => ?_) (fun cs32 H => ?_)
                                                                · refine r_tcase (n := 1074) (v := 30) (off := 1041) dL_law_33 cs32 (by decide) (by decide) (by decide) ?_
                                                                  exact r_sub [0, 1, 2, 3] rfl H
                                                                · skip
                                                                  refine sw_split H (fun cs33 H => ?_) (fun cs33 H => ?_)
                                                                  · refine r_tcase (n := 1097) (v := 31) (off := 1064) dL_law_33 cs33 (by decide) (by decide) (by decide) ?_
                                                                    exact r_sub [0, 1, 2, 3] rfl H
                                                                  · skip
                                                                    refine sw_split H (fun cs34 H => ?_) (fun cs34 H => ?_)
                                                                    · refine r_tcase (n := 1110) (v := 32) (off := 1077) dL_law_33 cs34 (by decide) (by decide) (by decide) ?_
                                                                      exact r_sub [0, 1, 2, 3] rfl H
                                                                    · skip
                                                                      refine sw_split H (fun cs35 H => ?_) (fun cs35 H => ?_)
                                                                      · refine r_tcase (n := 1133) (v := 33) (off := 1100) dL_law_33 cs35 (by decide) (by decide) (by decide) ?_
                                                                        exact r_sub [0, 1, 2, 3] rfl H
                                                                      · skip
                                                                        refine sw_split H (fun cs36 H => ?_) (fun cs36 H => ?_)
                                                                        · refine r_tcase (n := 1166) (v := 34) (off := 1133) dL_law_33 cs36 (by decide) (by decide) (by decide) ?_
                                                                          exact r_sub [0, 1, 2, 3] rfl H
                                                                        · skip
                                                                          refine sw_split H (fun cs37 H => ?_) (fun cs37 H => ?_)
                                                                          · refine r_tcase (n := 1199) (v := 35) (off := 1166) dL_law_33 cs37 (by decide) (by decide) (by decide) ?_
                                                                            exact r_sub [0, 1, 2, 3] rfl H
                                                                          · skip
                                                                            refine sw_split H (fun cs38 H => ?_) (fun cs38 H => ?_)
                                                                            · refine r_tcase (n := 1242) (v := 36) (off := 1209) dL_law_33 cs38 (by decide) (by decide) (by decide) ?_
                                                                              exact r_sub [0, 1, 2, 3] rfl H
                                                                            · skip
                                                                              refine sw_split H (fun cs39 H => ?_) (fun cs39 H => ?_)
                                                                              · refine r_tcase (n := 1275) (v := 37) (off := 1242) dL_law_33 cs39 (by decide) (by decide) (by decide) ?_
                                                                                exact r_sub [0, 1, 2, 3] rfl H
                                                                              · skip
                                                                                refine sw_split H (fun cs40 H => ?_) (fun cs40 H => ?_)
                                                                                · refine r_tcase (n := 1288) (v := 38) (off := 1255) dL_law_33 cs40 (by decide) (by decide) (by decide) ?_
                                                                                  exact r_sub [0, 1, 2, 3] rfl H
                                                                                · skip
                                                                                  refine sw_split H (fun cs41 H => ?_) (fun cs41 H => ?_)
                                                                                  · refine r_tcase (n := 1302) (v := 39) (off := 1269) dL_law_33 cs41 (by decide) (by decide) (by decide) ?_
                                                                                    exact r_sub [0, 1, 2, 3] rfl H
                                                                                  · skip
                                                                                    refine sw_split H (fun cs42 H => ?_) (fun cs42 H => ?_)
                                                                                    · refine r_tcase (n := 1316) (v := 40) (off := 1283) dL_law_33 cs42 (by decide) (by decide) (by decide) ?_
                                                                                      exact r_sub [0, 1, 2, 3] rfl H
                                                                                    · skip
                                                                                      refine sw_split H (fun cs43 H => ?_) (fun cs43 H => ?_)
                                                                                      · refine r_tcase (n := 1339) (v := 41) (off := 1306) dL_law_33 cs43 (by decide) (by decide) (by decide) ?_
                                                                                        exact r_sub [0, 1, 2, 3] rfl H
                                                                                      · skip
                                                                                        refine sw_split H (fun cs44 H => ?_) (fun cs44 H => ?_)
                                                                                        · refine r_tcase (n := 1352) (v := 42) (off := 1319) dL_law_33 cs44 (by decide) (by decide) (by decide) ?_
                                                                                          exact r_sub [0, 1, 2, 3] rfl H
                                                                                        · skip
                                                                                          refine sw_split H (fun cs45 H => ?_) (fun cs45 H => ?_)
                                                                                          · refine r_tcase (n := 1375) (v := 43) (off := 1342) dL_law_33 cs45 (by decide) (by decide) (by decide) ?_
                                                                                            exact r_sub [0, 1, 2, 3] rfl H
                                                                                          · skip
                                                                                            refine r_tout (n := 1389) dL_law_33 (by have e0 := lv_neT cs2 (a := 0) (by decide); have e1 := lv_neT cs3 (a := 1) (by decide); have e2 := lv_neT cs4 (a := 2) (by decide); have e3 := lv_neT cs5 (a := 3) (by decide); have e4 := lv_neT cs6 (a := 4) (by decide); have e5 := lv_neT cs7 (a := 5) (by decide); have e6 := lv_neT cs8 (a := 6) (by decide); have e7 := lv_neT cs9 (a := 7) (by decide); have e8 := lv_neT cs10 (a := 8) (by decide); have e9 := lv_neT cs11 (a := 9) (by decide); have e10 := lv_neT cs12 (a := 10) (by decide); have e11 := lv_neT cs13 (a := 11) (by decide); have e12 := lv_neT cs14 (a := 12) (by decide); have e13 := lv_neT cs15 (a := 13) (by decide); have e14 := lv_neT cs16 (a := 14) (by decide); have e15 := lv_neT cs17 (a := 15) (by decide); have e16 := lv_neT cs18 (a := 16) (by decide); have e17 := lv_neT cs19 (a := 17) (by decide); have e18 := lv_neT cs20 (a := 18) (by decide); have e19 := lv_neT cs21 (a := 19) (by decide); have e20 := lv_neT cs22 (a := 20) (by decide); have e21 := lv_neT cs23 (a := 21) (by decide); have e22 := lv_neT cs24 (a := 22) (by decide); have e23 := lv_neT cs25 (a := 23) (by decide); have e24 := lv_neT cs26 (a := 24) (by decide); have e25 := lv_neT cs27 (a := 25) (by decide); have e26 := lv_neT cs28 (a := 26) (by decide); have e27 := lv_neT cs29 (a := 27) (by decide); have e28 := lv_neT cs30 (a := 28) (by decide); have e29 := lv_neT cs31 (a := 29) (by decide); have e30 := lv_neT cs32 (a := 30) (by decide); have e31 := lv_neT cs33 (a := 31) (by decide); have e32 := lv_neT cs34 (a := 32) (by decide); have e33 := lv_neT cs35 (a := 33) (by decide); have e34 := lv_neT cs36 (a := 34) (by decide); have e35 := lv_neT cs37 (a := 35) (by decide); have e36 := lv_neT cs38 (a := 36) (by decide); have e37 := lv_neT cs39 (a := 37) (by decide); have e38 := lv_neT cs40 (a := 38) (by decide); have e39 := lv_neT cs41 (a := 39) (by decide); have e40 := lv_neT cs42 (a := 40) (by decide); have e41 := lv_neT cs43 (a := 41) (by decide); have e42 := lv_neT cs44 (a := 42) (by decide); have e43 := lv_neT cs45 (a := 43) (by decide); omega) (by decide) ?_
                                                                                            exact r_sub [0, 1, 2, 3] rfl H
set_option maxRecDepth 20000 in
theorem rg_L_law_1395 {g : OG} {L : Nat} {xs : Nat → Int32} {nm : String} (hscr : scr_xs g L xs) {d : Nat} {I : IT} {X : XT} {K : Int32 → IT → XT → Prop}  
    (H : K 1 I X) : SR g (d + 1) (iLw nm) 1395 [] I X (qI K) := by
  refine r_iconst (n := 1396) (v := 1) dL_law_1395 ki_1 rfl ?_
  exact rs_zret dL_law_1396 rfl (by decide) H
set_option maxRecDepth 20000 in
theorem rg_L_law_224 {g : OG} {L : Nat} {xs : Nat → Int32} {nm : String} (hscr : scr_xs g L xs) {d : Nat} {I : IT} {X : XT} {K : Int32 → IT → XT → Prop} {l3 : Int32} 
    (H : vp_in (l3 + 1) L ∧
      vp_in (l3 + 2) L ∧
      CI g d iX10_row [rf g 1, .int (xs (l3 + 1).toNatClampNeg), .int (xs (l3 + 2).toNatClampNeg)] I X (fun r3 I4 X5 =>
        vp_in (l3 + 1) L ∧
        vp_in (l3 + 2) L ∧
        CI g d iX11_row [rf g 129, .int (xs (l3 + 1).toNatClampNeg), .int (xs (l3 + 2).toNatClampNeg)] I4 X5 (fun r8 I9 X10 =>
          (r3 = r8 →
            SR g (d + 1) (iLw nm) 1389 [(0, .ref (og_s g)), (1, rf g 1), (2, rf g 129), (3, .int l3)] I9 X10 (qI K)) ∧
          (¬ r3 = r8 →
            K 0 I9 X10)))) : SR g (d + 1) (iLw nm) 224 [(0, .ref (og_s g)), (1, rf g 1), (2, rf g 129), (3, .int l3)] I X (qI K) := by
  refine r_aload_n (n := 225) 1 dL_law_224 rfl rfl ?_
  refine r_aload_n (n := 226) 0 dL_law_225 rfl rfl ?_
  refine r_iload_n (n := 227) 3 dL_law_226 rfl rfl ?_
  refine r_iconst (n := 228) (v := 1) dL_law_227 ki_1 rfl ?_
  refine r_iadd (n := 229) dL_law_228 rfl ?_
  obtain ⟨hi1, H⟩ := H
  refine r_sld (n := 230) hscr hi1 dL_law_229 rfl ?_
  refine r_aload_n (n := 231) 0 dL_law_230 rfl rfl ?_
  refine r_iload_n (n := 232) 3 dL_law_231 rfl rfl ?_
  refine r_iconst (n := 233) (v := 2) dL_law_232 ki_2 rfl ?_
  refine r_iadd (n := 234) dL_law_233 rfl ?_
  obtain ⟨hi2, H⟩ := H
  refine r_sld (n := 235) hscr hi2 dL_law_234 rfl ?_
  refine rs_cVi (n := 238) (rest := []) (As := [.int _, .int _]) vm_X10_row gw_371 so_1 cq_9 dL_law_235 rfl rfl (Nat.le_of_ble_eq_true rfl) rfl (CI.mono H (fun r3 I4 X5 H => ?_))
  refine r_aload_n (n := 239) 2 dL_law_238 rfl rfl ?_
  refine r_aload_n (n := 240) 0 dL_law_239 rfl rfl ?_
  refine r_iload_n (n := 241) 3 dL_law_240 rfl rfl ?_
  refine r_iconst (n := 242) (v := 1) dL_law_241 ki_1 rfl ?_
  refine r_iadd (n := 243) dL_law_242 rfl ?_
  obtain ⟨hi6, H⟩ := H
  refine r_sld (n := 244) hscr hi6 dL_law_243 rfl ?_
  refine r_aload_n (n := 245) 0 dL_law_244 rfl rfl ?_
  refine r_iload_n (n := 246) 3 dL_law_245 rfl rfl ?_
  refine r_iconst (n := 247) (v := 2) dL_law_246 ki_2 rfl ?_
  refine r_iadd (n := 248) dL_law_247 rfl ?_
  obtain ⟨hi7, H⟩ := H
  refine r_sld (n := 249) hscr hi7 dL_law_248 rfl ?_
  refine rs_cVi (n := 252) (rest := [.int _]) (As := [.int _, .int _]) vm_X11_row gw_1165 so_129 cq_10 dL_law_249 rfl rfl (Nat.le_of_ble_eq_true rfl) rfl (CI.mono H (fun r8 I9 X10 H => ?_))
  refine r_icmp_eq (n := 255) (tgt := 1389) dL_law_252 (by decide) rfl (fun c => ?_) (fun c => ?_)
  · have H := H.1 c
    exact r_sub [0, 1, 2, 3] rfl H
  · have H := H.2 c
    refine r_iconst (n := 256) (v := 0) dL_law_255 ki_0 rfl ?_
    exact rs_zret dL_law_256 rfl (by decide) H
set_option maxRecDepth 20000 in
theorem rg_L_law_257 {g : OG} {L : Nat} {xs : Nat → Int32} {nm : String} (hscr : scr_xs g L xs) {d : Nat} {I : IT} {X : XT} {K : Int32 → IT → XT → Prop} {l3 : Int32} 
    (H : vp_in (l3 + 1) L ∧
      vp_in (l3 + 2) L ∧
      vp_in (l3 + 3) L ∧
      CI g d iX10_lay [rf g 1, .int (xs (l3 + 1).toNatClampNeg), .int (xs (l3 + 2).toNatClampNeg), .int (xs (l3 + 3).toNatClampNeg)] I X (fun r4 I5 X6 =>
        vp_in (l3 + 1) L ∧
        vp_in (l3 + 2) L ∧
        vp_in (l3 + 3) L ∧
        CI g d iX11_lay [rf g 129, .int (xs (l3 + 1).toNatClampNeg), .int (xs (l3 + 2).toNatClampNeg), .int (xs (l3 + 3).toNatClampNeg)] I5 X6 (fun r10 I11 X12 =>
          (r4 = r10 →
            SR g (d + 1) (iLw nm) 1389 [(0, .ref (og_s g)), (1, rf g 1), (2, rf g 129), (3, .int l3)] I11 X12 (qI K)) ∧
          (¬ r4 = r10 →
            K 0 I11 X12)))) : SR g (d + 1) (iLw nm) 257 [(0, .ref (og_s g)), (1, rf g 1), (2, rf g 129), (3, .int l3)] I X (qI K) := by
  refine r_aload_n (n := 258) 1 dL_law_257 rfl rfl ?_
  refine r_aload_n (n := 259) 0 dL_law_258 rfl rfl ?_
  refine r_iload_n (n := 260) 3 dL_law_259 rfl rfl ?_
  refine r_iconst (n := 261) (v := 1) dL_law_260 ki_1 rfl ?_
  refine r_iadd (n := 262) dL_law_261 rfl ?_
  obtain ⟨hi1, H⟩ := H
  refine r_sld (n := 263) hscr hi1 dL_law_262 rfl ?_
  refine r_aload_n (n := 264) 0 dL_law_263 rfl rfl ?_
  refine r_iload_n (n := 265) 3 dL_law_264 rfl rfl ?_
  refine r_iconst (n := 266) (v := 2) dL_law_265 ki_2 rfl ?_
  refine r_iadd (n := 267) dL_law_266 rfl ?_
  obtain ⟨hi2, H⟩ := H
  refine r_sld (n := 268) hscr hi2 dL_law_267 rfl ?_
  refine r_aload_n (n := 269) 0 dL_law_268 rfl rfl ?_
  refine r_iload_n (n := 270) 3 dL_law_269 rfl rfl ?_
  refine r_iconst (n := 271) (v := 3) dL_law_270 ki_3 rfl ?_
  refine r_iadd (n := 272) dL_law_271 rfl ?_
  obtain ⟨hi3, H⟩ := H
  refine r_sld (n := 273) hscr hi3 dL_law_272 rfl ?_
  refine rs_cVi (n := 276) (rest := []) (As := [.int _, .int _, .int _]) vm_X10_lay gw_386 so_1 cq_9 dL_law_273 rfl rfl (Nat.le_of_ble_eq_true rfl) rfl (CI.mono H (fun r4 I5 X6 H => ?_))
  refine r_aload_n (n := 277) 2 dL_law_276 rfl rfl ?_
  refine r_aload_n (n := 278) 0 dL_law_277 rfl rfl ?_
  refine r_iload_n (n := 279) 3 dL_law_278 rfl rfl ?_
  refine r_iconst (n := 280) (v := 1) dL_law_279 ki_1 rfl ?_
  refine r_iadd (n := 281) dL_law_280 rfl ?_
  obtain ⟨hi7, H⟩ := H
  refine r_sld (n := 282) hscr hi7 dL_law_281 rfl ?_
  refine r_aload_n (n := 283) 0 dL_law_282 rfl rfl ?_
  refine r_iload_n (n := 284) 3 dL_law_283 rfl rfl ?_
  refine r_iconst (n := 285) (v := 2) dL_law_284 ki_2 rfl ?_
  refine r_iadd (n := 286) dL_law_285 rfl ?_
  obtain ⟨hi8, H⟩ := H
  refine r_sld (n := 287) hscr hi8 dL_law_286 rfl ?_
  refine r_aload_n (n := 288) 0 dL_law_287 rfl rfl ?_
  refine r_iload_n (n := 289) 3 dL_law_288 rfl rfl ?_
  refine r_iconst (n := 290) (v := 3) dL_law_289 ki_3 rfl ?_
  refine r_iadd (n := 291) dL_law_290 rfl ?_
  obtain ⟨hi9, H⟩ := H
  refine r_sld (n := 292) hscr hi9 dL_law_291 rfl ?_
  refine rs_cVi (n := 295) (rest := [.int _]) (As := [.int _, .int _, .int _]) vm_X11_lay gw_1176 so_129 cq_10 dL_law_292 rfl rfl (Nat.le_of_ble_eq_true rfl) rfl (CI.mono H (fun r10 I11 X12 H => ?_))
  refine r_icmp_eq (n := 298) (tgt := 1389) dL_law_295 (by decide) rfl (fun c => ?_) (fun c => ?_)
  · have H := H.1 c
    exact r_sub [0, 1, 2, 3] rfl H
  · have H := H.2 c
    refine r_iconst (n := 299) (v := 0) dL_law_298 ki_0 rfl ?_
    exact rs_zret dL_law_299 rfl (by decide) H
set_option maxRecDepth 20000 in
theorem rg_L_law_300 {g : OG} {L : Nat} {xs : Nat → Int32} {nm : String} (hscr : scr_xs g L xs) {d : Nat} {I : IT} {X : XT} {K : Int32 → IT → XT → Prop} {l3 : Int32} 
    (H : vp_in (l3 + 1) L ∧
      vp_in (l3 + 2) L ∧
      CI g d iX10_at [rf g 1, .int (xs (l3 + 1).toNatClampNeg), .int (xs (l3 + 2).toNatClampNeg)] I X (fun r3 I4 X5 =>
        vp_in (l3 + 1) L ∧
        vp_in (l3 + 2) L ∧
        CI g d iX11_at [rf g 129, .int (xs (l3 + 1).toNatClampNeg), .int (xs (l3 + 2).toNatClampNeg)] I4 X5 (fun r8 I9 X10 =>
          (r3 = r8 →
            SR g (d + 1) (iLw nm) 1389 [(0, .ref (og_s g)), (1, rf g 1), (2, rf g 129), (3, .int l3)] I9 X10 (qI K)) ∧
          (¬ r3 = r8 →
            K 0 I9 X10)))) : SR g (d + 1) (iLw nm) 300 [(0, .ref (og_s g)), (1, rf g 1), (2, rf g 129), (3, .int l3)] I X (qI K) := by
  refine r_aload_n (n := 301) 1 dL_law_300 rfl rfl ?_
  refine r_aload_n (n := 302) 0 dL_law_301 rfl rfl ?_
  refine r_iload_n (n := 303) 3 dL_law_302 rfl rfl ?_
  refine r_iconst (n := 304) (v := 1) dL_law_303 ki_1 rfl ?_
  refine r_iadd (n := 305) dL_law_304 rfl ?_
  obtain ⟨hi1, H⟩ := H
  refine r_sld (n := 306) hscr hi1 dL_law_305 rfl ?_
  refine r_aload_n (n := 307) 0 dL_law_306 rfl rfl ?_
  refine r_iload_n (n := 308) 3 dL_law_307 rfl rfl ?_
  refine r_iconst (n := 309) (v := 2) dL_law_308 ki_2 rfl ?_
  refine r_iadd (n := 310) dL_law_309 rfl ?_
  obtain ⟨hi2, H⟩ := H
  refine r_sld (n := 311) hscr hi2 dL_law_310 rfl ?_
  refine rs_cVi (n := 314) (rest := []) (As := [.int _, .int _]) vm_X10_at gw_410 so_1 cq_9 dL_law_311 rfl rfl (Nat.le_of_ble_eq_true rfl) rfl (CI.mono H (fun r3 I4 X5 H => ?_))
  refine r_aload_n (n := 315) 2 dL_law_314 rfl rfl ?_
  refine r_aload_n (n := 316) 0 dL_law_315 rfl rfl ?_
  refine r_iload_n (n := 317) 3 dL_law_316 rfl rfl ?_
  refine r_iconst (n := 318) (v := 1) dL_law_317 ki_1 rfl ?_
  refine r_iadd (n := 319) dL_law_318 rfl ?_
  obtain ⟨hi6, H⟩ := H
  refine r_sld (n := 320) hscr hi6 dL_law_319 rfl ?_
  refine r_aload_n (n := 321) 0 dL_law_320 rfl rfl ?_
  refine r_iload_n (n := 322) 3 dL_law_321 rfl rfl ?_
  refine r_iconst (n := 323) (v := 2) dL_law_322 ki_2 rfl ?_
  refine r_iadd (n := 324) dL_law_323 rfl ?_
  obtain ⟨hi7, H⟩ := H
  refine r_sld (n := 325) hscr hi7 dL_law_324 rfl ?_
  refine rs_cVi (n := 328) (rest := [.int _]) (As := [.int _, .int _]) vm_X11_at gw_1188 so_129 cq_10 dL_law_325 rfl rfl (Nat.le_of_ble_eq_true rfl) rfl (CI.mono H (fun r8 I9 X10 H => ?_))
  refine r_icmp_eq (n := 331) (tgt := 1389) dL_law_328 (by decide) rfl (fun c => ?_) (fun c => ?_)
  · have H := H.1 c
    exact r_sub [0, 1, 2, 3] rfl H
  · have H := H.2 c
    refine r_iconst (n := 332) (v := 0) dL_law_331 ki_0 rfl ?_
    exact rs_zret dL_law_332 rfl (by decide) H
set_option maxRecDepth 20000 in
theorem rg_L_law_333 {g : OG} {L : Nat} {xs : Nat → Int32} {nm : String} (hscr : scr_xs g L xs) {d : Nat} {I : IT} {X : XT} {K : Int32 → IT → XT → Prop} {l3 : Int32} 
    (H : vp_in (l3 + 1) L ∧
      CI g d iX10_tear [rf g 1, .int (xs (l3 + 1).toNatClampNeg)] I X (fun r2 I3 X4 =>
        vp_in (l3 + 1) L ∧
        CI g d iX11_tear [rf g 129, .int (xs (l3 + 1).toNatClampNeg)] I3 X4 (fun r6 I7 X8 =>
          (r2 = r6 →
            SR g (d + 1) (iLw nm) 1389 [(0, .ref (og_s g)), (1, rf g 1), (2, rf g 129), (3, .int l3)] I7 X8 (qI K)) ∧
          (¬ r2 = r6 →
            K 0 I7 X8)))) : SR g (d + 1) (iLw nm) 333 [(0, .ref (og_s g)), (1, rf g 1), (2, rf g 129), (3, .int l3)] I X (qI K) := by
  refine r_aload_n (n := 334) 1 dL_law_333 rfl rfl ?_
  refine r_aload_n (n := 335) 0 dL_law_334 rfl rfl ?_
  refine r_iload_n (n := 336) 3 dL_law_335 rfl rfl ?_
  refine r_iconst (n := 337) (v := 1) dL_law_336 ki_1 rfl ?_
  refine r_iadd (n := 338) dL_law_337 rfl ?_
  obtain ⟨hi1, H⟩ := H
  refine r_sld (n := 339) hscr hi1 dL_law_338 rfl ?_
  refine rs_cVi (n := 342) (rest := []) (As := [.int _]) vm_X10_tear gw_414 so_1 cq_9 dL_law_339 rfl rfl (Nat.le_of_ble_eq_true rfl) rfl (CI.mono H (fun r2 I3 X4 H => ?_))
  refine r_aload_n (n := 343) 2 dL_law_342 rfl rfl ?_
  refine r_aload_n (n := 344) 0 dL_law_343 rfl rfl ?_
  refine r_iload_n (n := 345) 3 dL_law_344 rfl rfl ?_
  refine r_iconst (n := 346) (v := 1) dL_law_345 ki_1 rfl ?_
  refine r_iadd (n := 347) dL_law_346 rfl ?_
  obtain ⟨hi5, H⟩ := H
  refine r_sld (n := 348) hscr hi5 dL_law_347 rfl ?_
  refine rs_cVi (n := 351) (rest := [.int _]) (As := [.int _]) vm_X11_tear gw_1192 so_129 cq_10 dL_law_348 rfl rfl (Nat.le_of_ble_eq_true rfl) rfl (CI.mono H (fun r6 I7 X8 H => ?_))
  refine r_icmp_eq (n := 354) (tgt := 1389) dL_law_351 (by decide) rfl (fun c => ?_) (fun c => ?_)
  · have H := H.1 c
    exact r_sub [0, 1, 2, 3] rfl H
  · have H := H.2 c
    refine r_iconst (n := 355) (v := 0) dL_law_354 ki_0 rfl ?_
    exact rs_zret dL_law_355 rfl (by decide) H
set_option maxRecDepth 20000 in
theorem rg_L_law_356 {g : OG} {L : Nat} {xs : Nat → Int32} {nm : String} (hscr : scr_xs g L xs) {d : Nat} {I : IT} {X : XT} {K : Int32 → IT → XT → Prop} {l3 : Int32} 
    (H : vp_in (l3 + 1) L ∧
      vp_in (l3 + 2) L ∧
      vp_in (l3 + 3) L ∧
      vp_in (l3 + 4) L ∧
      vp_in (l3 + 5) L ∧
      CI g d iX10_copy [rf g 1, .int (xs (l3 + 1).toNatClampNeg), .int (xs (l3 + 2).toNatClampNeg), .int (xs (l3 + 3).toNatClampNeg), .int (xs (l3 + 4).toNatClampNeg), .int (xs (l3 + 5).toNatClampNeg)] I X (fun r6 I7 X8 =>
        vp_in (l3 + 1) L ∧
        vp_in (l3 + 2) L ∧
        vp_in (l3 + 3) L ∧
        vp_in (l3 + 4) L ∧
        vp_in (l3 + 5) L ∧
        CI g d iX11_copy [rf g 129, .int (xs (l3 + 1).toNatClampNeg), .int (xs (l3 + 2).toNatClampNeg), .int (xs (l3 + 3).toNatClampNeg), .int (xs (l3 + 4).toNatClampNeg), .int (xs (l3 + 5).toNatClampNeg)] I7 X8 (fun r14 I15 X16 =>
          (r6 = r14 →
            SR g (d + 1) (iLw nm) 1389 [(0, .ref (og_s g)), (1, rf g 1), (2, rf g 129), (3, .int l3)] I15 X16 (qI K)) ∧
          (¬ r6 = r14 →
            K 0 I15 X16)))) : SR g (d + 1) (iLw nm) 356 [(0, .ref (og_s g)), (1, rf g 1), (2, rf g 129), (3, .int l3)] I X (qI K) := by
  refine r_aload_n (n := 357) 1 dL_law_356 rfl rfl ?_
  refine r_aload_n (n := 358) 0 dL_law_357 rfl rfl ?_
  refine r_iload_n (n := 359) 3 dL_law_358 rfl rfl ?_
  refine r_iconst (n := 360) (v := 1) dL_law_359 ki_1 rfl ?_
  refine r_iadd (n := 361) dL_law_360 rfl ?_
  obtain ⟨hi1, H⟩ := H
  refine r_sld (n := 362) hscr hi1 dL_law_361 rfl ?_
  refine r_aload_n (n := 363) 0 dL_law_362 rfl rfl ?_
  refine r_iload_n (n := 364) 3 dL_law_363 rfl rfl ?_
  refine r_iconst (n := 365) (v := 2) dL_law_364 ki_2 rfl ?_
  refine r_iadd (n := 366) dL_law_365 rfl ?_
  obtain ⟨hi2, H⟩ := H
  refine r_sld (n := 367) hscr hi2 dL_law_366 rfl ?_
  refine r_aload_n (n := 368) 0 dL_law_367 rfl rfl ?_
  refine r_iload_n (n := 369) 3 dL_law_368 rfl rfl ?_
  refine r_iconst (n := 370) (v := 3) dL_law_369 ki_3 rfl ?_
  refine r_iadd (n := 371) dL_law_370 rfl ?_
  obtain ⟨hi3, H⟩ := H
  refine r_sld (n := 372) hscr hi3 dL_law_371 rfl ?_
  refine r_aload_n (n := 373) 0 dL_law_372 rfl rfl ?_
  refine r_iload_n (n := 374) 3 dL_law_373 rfl rfl ?_
  refine r_iconst (n := 375) (v := 4) dL_law_374 ki_4 rfl ?_
  refine r_iadd (n := 376) dL_law_375 rfl ?_
  obtain ⟨hi4, H⟩ := H
  refine r_sld (n := 377) hscr hi4 dL_law_376 rfl ?_
  refine r_aload_n (n := 378) 0 dL_law_377 rfl rfl ?_
  refine r_iload_n (n := 379) 3 dL_law_378 rfl rfl ?_
  refine r_iconst (n := 380) (v := 5) dL_law_379 ki_5 rfl ?_
  refine r_iadd (n := 381) dL_law_380 rfl ?_
  obtain ⟨hi5, H⟩ := H
  refine r_sld (n := 382) hscr hi5 dL_law_381 rfl ?_
  refine rs_cVi (n := 385) (rest := []) (As := [.int _, .int _, .int _, .int _, .int _]) vm_X10_copy gw_423 so_1 cq_9 dL_law_382 rfl rfl (Nat.le_of_ble_eq_true rfl) rfl (CI.mono H (fun r6 I7 X8 H => ?_))
  refine r_aload_n (n := 386) 2 dL_law_385 rfl rfl ?_
  refine r_aload_n (n := 387) 0 dL_law_386 rfl rfl ?_
  refine r_iload_n (n := 388) 3 dL_law_387 rfl rfl ?_
  refine r_iconst (n := 389) (v := 1) dL_law_388 ki_1 rfl ?_
  refine r_iadd (n := 390) dL_law_389 rfl ?_
  obtain ⟨hi9, H⟩ := H
  refine r_sld (n := 391) hscr hi9 dL_law_390 rfl ?_
  refine r_aload_n (n := 392) 0 dL_law_391 rfl rfl ?_
  refine r_iload_n (n := 393) 3 dL_law_392 rfl rfl ?_
  refine r_iconst (n := 394) (v := 2) dL_law_393 ki_2 rfl ?_
  refine r_iadd (n := 395) dL_law_394 rfl ?_
  obtain ⟨hi10, H⟩ := H
  refine r_sld (n := 396) hscr hi10 dL_law_395 rfl ?_
  refine r_aload_n (n := 397) 0 dL_law_396 rfl rfl ?_
  refine r_iload_n (n := 398) 3 dL_law_397 rfl rfl ?_
  refine r_iconst (n := 399) (v := 3) dL_law_398 ki_3 rfl ?_
  refine r_iadd (n := 400) dL_law_399 rfl ?_
  obtain ⟨hi11, H⟩ := H
  refine r_sld (n := 401) hscr hi11 dL_law_400 rfl ?_
  refine r_aload_n (n := 402) 0 dL_law_401 rfl rfl ?_
  refine r_iload_n (n := 403) 3 dL_law_402 rfl rfl ?_
  refine r_iconst (n := 404) (v := 4) dL_law_403 ki_4 rfl ?_
  refine r_iadd (n := 405) dL_law_404 rfl ?_
  obtain ⟨hi12, H⟩ := H
  refine r_sld (n := 406) hscr hi12 dL_law_405 rfl ?_
  refine r_aload_n (n := 407) 0 dL_law_406 rfl rfl ?_
  refine r_iload_n (n := 408) 3 dL_law_407 rfl rfl ?_
  refine r_iconst (n := 409) (v := 5) dL_law_408 ki_5 rfl ?_
  refine r_iadd (n := 410) dL_law_409 rfl ?_
  obtain ⟨hi13, H⟩ := H
  refine r_sld (n := 411) hscr hi13 dL_law_410 rfl ?_
  refine rs_cVi (n := 414) (rest := [.int _]) (As := [.int _, .int _, .int _, .int _, .int _]) vm_X11_copy gw_1196 so_129 cq_10 dL_law_411 rfl rfl (Nat.le_of_ble_eq_true rfl) rfl (CI.mono H (fun r14 I15 X16 H => ?_))
  refine r_icmp_eq (n := 417) (tgt := 1389) dL_law_414 (by decide) rfl (fun c => ?_) (fun c => ?_)
  · have H := H.1 c
    exact r_sub [0, 1, 2, 3] rfl H
  · have H := H.2 c
    refine r_iconst (n := 418) (v := 0) dL_law_417 ki_0 rfl ?_
    exact rs_zret dL_law_418 rfl (by decide) H
set_option maxRecDepth 20000 in
theorem rg_L_law_419 {g : OG} {L : Nat} {xs : Nat → Int32} {nm : String} (hscr : scr_xs g L xs) {d : Nat} {I : IT} {X : XT} {K : Int32 → IT → XT → Prop} {l3 : Int32} 
    (H : vp_in (l3 + 1) L ∧
      CI g d iX10_mean [rf g 1, .int (xs (l3 + 1).toNatClampNeg)] I X (fun r2 I3 X4 =>
        vp_in (l3 + 1) L ∧
        CI g d iX11_mean [rf g 129, .int (xs (l3 + 1).toNatClampNeg)] I3 X4 (fun r6 I7 X8 =>
          (r2 = r6 →
            SR g (d + 1) (iLw nm) 1389 [(0, .ref (og_s g)), (1, rf g 1), (2, rf g 129), (3, .int l3)] I7 X8 (qI K)) ∧
          (¬ r2 = r6 →
            K 0 I7 X8)))) : SR g (d + 1) (iLw nm) 419 [(0, .ref (og_s g)), (1, rf g 1), (2, rf g 129), (3, .int l3)] I X (qI K) := by
  refine r_aload_n (n := 420) 1 dL_law_419 rfl rfl ?_
  refine r_aload_n (n := 421) 0 dL_law_420 rfl rfl ?_
  refine r_iload_n (n := 422) 3 dL_law_421 rfl rfl ?_
  refine r_iconst (n := 423) (v := 1) dL_law_422 ki_1 rfl ?_
  refine r_iadd (n := 424) dL_law_423 rfl ?_
  obtain ⟨hi1, H⟩ := H
  refine r_sld (n := 425) hscr hi1 dL_law_424 rfl ?_
  refine rs_cVi (n := 428) (rest := []) (As := [.int _]) vm_X10_mean gw_434 so_1 cq_9 dL_law_425 rfl rfl (Nat.le_of_ble_eq_true rfl) rfl (CI.mono H (fun r2 I3 X4 H => ?_))
  refine r_aload_n (n := 429) 2 dL_law_428 rfl rfl ?_
  refine r_aload_n (n := 430) 0 dL_law_429 rfl rfl ?_
  refine r_iload_n (n := 431) 3 dL_law_430 rfl rfl ?_
  refine r_iconst (n := 432) (v := 1) dL_law_431 ki_1 rfl ?_
  refine r_iadd (n := 433) dL_law_432 rfl ?_
  obtain ⟨hi5, H⟩ := H
  refine r_sld (n := 434) hscr hi5 dL_law_433 rfl ?_
  refine rs_cVi (n := 437) (rest := [.int _]) (As := [.int _]) vm_X11_mean gw_1200 so_129 cq_10 dL_law_434 rfl rfl (Nat.le_of_ble_eq_true rfl) rfl (CI.mono H (fun r6 I7 X8 H => ?_))
  refine r_icmp_eq (n := 440) (tgt := 1389) dL_law_437 (by decide) rfl (fun c => ?_) (fun c => ?_)
  · have H := H.1 c
    exact r_sub [0, 1, 2, 3] rfl H
  · have H := H.2 c
    refine r_iconst (n := 441) (v := 0) dL_law_440 ki_0 rfl ?_
    exact rs_zret dL_law_441 rfl (by decide) H
set_option maxRecDepth 20000 in
theorem rg_L_law_442 {g : OG} {L : Nat} {xs : Nat → Int32} {nm : String} (hscr : scr_xs g L xs) {d : Nat} {I : IT} {X : XT} {K : Int32 → IT → XT → Prop} {l3 : Int32} 
    (H : vp_in (l3 + 1) L ∧
      vp_in (l3 + 2) L ∧
      CI g d iX10_text [rf g 1, .int (xs (l3 + 1).toNatClampNeg), .int (xs (l3 + 2).toNatClampNeg)] I X (fun r3 I4 X5 =>
        vp_in (l3 + 1) L ∧
        vp_in (l3 + 2) L ∧
        CI g d iX11_text [rf g 129, .int (xs (l3 + 1).toNatClampNeg), .int (xs (l3 + 2).toNatClampNeg)] I4 X5 (fun r8 I9 X10 =>
          (r3 = r8 →
            SR g (d + 1) (iLw nm) 1389 [(0, .ref (og_s g)), (1, rf g 1), (2, rf g 129), (3, .int l3)] I9 X10 (qI K)) ∧
          (¬ r3 = r8 →
            K 0 I9 X10)))) : SR g (d + 1) (iLw nm) 442 [(0, .ref (og_s g)), (1, rf g 1), (2, rf g 129), (3, .int l3)] I X (qI K) := by
  refine r_aload_n (n := 443) 1 dL_law_442 rfl rfl ?_
  refine r_aload_n (n := 444) 0 dL_law_443 rfl rfl ?_
  refine r_iload_n (n := 445) 3 dL_law_444 rfl rfl ?_
  refine r_iconst (n := 446) (v := 1) dL_law_445 ki_1 rfl ?_
  refine r_iadd (n := 447) dL_law_446 rfl ?_
  obtain ⟨hi1, H⟩ := H
  refine r_sld (n := 448) hscr hi1 dL_law_447 rfl ?_
  refine r_aload_n (n := 449) 0 dL_law_448 rfl rfl ?_
  refine r_iload_n (n := 450) 3 dL_law_449 rfl rfl ?_
  refine r_iconst (n := 451) (v := 2) dL_law_450 ki_2 rfl ?_
  refine r_iadd (n := 452) dL_law_451 rfl ?_
  obtain ⟨hi2, H⟩ := H
  refine r_sld (n := 453) hscr hi2 dL_law_452 rfl ?_
  refine rs_cVi (n := 456) (rest := []) (As := [.int _, .int _]) vm_X10_text gw_442 so_1 cq_9 dL_law_453 rfl rfl (Nat.le_of_ble_eq_true rfl) rfl (CI.mono H (fun r3 I4 X5 H => ?_))
  refine r_aload_n (n := 457) 2 dL_law_456 rfl rfl ?_
  refine r_aload_n (n := 458) 0 dL_law_457 rfl rfl ?_
  refine r_iload_n (n := 459) 3 dL_law_458 rfl rfl ?_
  refine r_iconst (n := 460) (v := 1) dL_law_459 ki_1 rfl ?_
  refine r_iadd (n := 461) dL_law_460 rfl ?_
  obtain ⟨hi6, H⟩ := H
  refine r_sld (n := 462) hscr hi6 dL_law_461 rfl ?_
  refine r_aload_n (n := 463) 0 dL_law_462 rfl rfl ?_
  refine r_iload_n (n := 464) 3 dL_law_463 rfl rfl ?_
  refine r_iconst (n := 465) (v := 2) dL_law_464 ki_2 rfl ?_
  refine r_iadd (n := 466) dL_law_465 rfl ?_
  obtain ⟨hi7, H⟩ := H
  refine r_sld (n := 467) hscr hi7 dL_law_466 rfl ?_
  refine rs_cVi (n := 470) (rest := [.int _]) (As := [.int _, .int _]) vm_X11_text gw_1204 so_129 cq_10 dL_law_467 rfl rfl (Nat.le_of_ble_eq_true rfl) rfl (CI.mono H (fun r8 I9 X10 H => ?_))
  refine r_icmp_eq (n := 473) (tgt := 1389) dL_law_470 (by decide) rfl (fun c => ?_) (fun c => ?_)
  · have H := H.1 c
    exact r_sub [0, 1, 2, 3] rfl H
  · have H := H.2 c
    refine r_iconst (n := 474) (v := 0) dL_law_473 ki_0 rfl ?_
    exact rs_zret dL_law_474 rfl (by decide) H
set_option maxRecDepth 20000 in
theorem rg_L_law_475 {g : OG} {L : Nat} {xs : Nat → Int32} {nm : String} (hscr : scr_xs g L xs) {d : Nat} {I : IT} {X : XT} {K : Int32 → IT → XT → Prop} {l3 : Int32} 
    (H : vp_in (l3 + 1) L ∧
      vp_in (l3 + 2) L ∧
      vp_in (l3 + 3) L ∧
      CI g d iX10_put [rf g 1, .int (xs (l3 + 1).toNatClampNeg), .int (xs (l3 + 2).toNatClampNeg), .int (xs (l3 + 3).toNatClampNeg)] I X (fun r4 I5 X6 =>
        vp_in (l3 + 1) L ∧
        vp_in (l3 + 2) L ∧
        vp_in (l3 + 3) L ∧
        CI g d iX11_put [rf g 129, .int (xs (l3 + 1).toNatClampNeg), .int (xs (l3 + 2).toNatClampNeg), .int (xs (l3 + 3).toNatClampNeg)] I5 X6 (fun r10 I11 X12 =>
          (r4 = r10 →
            SR g (d + 1) (iLw nm) 1389 [(0, .ref (og_s g)), (1, rf g 1), (2, rf g 129), (3, .int l3)] I11 X12 (qI K)) ∧
          (¬ r4 = r10 →
            K 0 I11 X12)))) : SR g (d + 1) (iLw nm) 475 [(0, .ref (og_s g)), (1, rf g 1), (2, rf g 129), (3, .int l3)] I X (qI K) := by
  refine r_aload_n (n := 476) 1 dL_law_475 rfl rfl ?_
  refine r_aload_n (n := 477) 0 dL_law_476 rfl rfl ?_
  refine r_iload_n (n := 478) 3 dL_law_477 rfl rfl ?_
  refine r_iconst (n := 479) (v := 1) dL_law_478 ki_1 rfl ?_
  refine r_iadd (n := 480) dL_law_479 rfl ?_
  obtain ⟨hi1, H⟩ := H
  refine r_sld (n := 481) hscr hi1 dL_law_480 rfl ?_
  refine r_aload_n (n := 482) 0 dL_law_481 rfl rfl ?_
  refine r_iload_n (n := 483) 3 dL_law_482 rfl rfl ?_
  refine r_iconst (n := 484) (v := 2) dL_law_483 ki_2 rfl ?_
  refine r_iadd (n := 485) dL_law_484 rfl ?_
  obtain ⟨hi2, H⟩ := H
  refine r_sld (n := 486) hscr hi2 dL_law_485 rfl ?_
  refine r_aload_n (n := 487) 0 dL_law_486 rfl rfl ?_
  refine r_iload_n (n := 488) 3 dL_law_487 rfl rfl ?_
  refine r_iconst (n := 489) (v := 3) dL_law_488 ki_3 rfl ?_
  refine r_iadd (n := 490) dL_law_489 rfl ?_
  obtain ⟨hi3, H⟩ := H
  refine r_sld (n := 491) hscr hi3 dL_law_490 rfl ?_
  refine rs_cVi (n := 494) (rest := []) (As := [.int _, .int _, .int _]) vm_X10_put gw_453 so_1 cq_9 dL_law_491 rfl rfl (Nat.le_of_ble_eq_true rfl) rfl (CI.mono H (fun r4 I5 X6 H => ?_))
  refine r_aload_n (n := 495) 2 dL_law_494 rfl rfl ?_
  refine r_aload_n (n := 496) 0 dL_law_495 rfl rfl ?_
  refine r_iload_n (n := 497) 3 dL_law_496 rfl rfl ?_
  refine r_iconst (n := 498) (v := 1) dL_law_497 ki_1 rfl ?_
  refine r_iadd (n := 499) dL_law_498 rfl ?_
  obtain ⟨hi7, H⟩ := H
  refine r_sld (n := 500) hscr hi7 dL_law_499 rfl ?_
  refine r_aload_n (n := 501) 0 dL_law_500 rfl rfl ?_
  refine r_iload_n (n := 502) 3 dL_law_501 rfl rfl ?_
  refine r_iconst (n := 503) (v := 2) dL_law_502 ki_2 rfl ?_
  refine r_iadd (n := 504) dL_law_503 rfl ?_
  obtain ⟨hi8, H⟩ := H
  refine r_sld (n := 505) hscr hi8 dL_law_504 rfl ?_
  refine r_aload_n (n := 506) 0 dL_law_505 rfl rfl ?_
  refine r_iload_n (n := 507) 3 dL_law_506 rfl rfl ?_
  refine r_iconst (n := 508) (v := 3) dL_law_507 ki_3 rfl ?_
  refine r_iadd (n := 509) dL_law_508 rfl ?_
  obtain ⟨hi9, H⟩ := H
  refine r_sld (n := 510) hscr hi9 dL_law_509 rfl ?_
  refine rs_cVi (n := 513) (rest := [.int _]) (As := [.int _, .int _, .int _]) vm_X11_put gw_1211 so_129 cq_10 dL_law_510 rfl rfl (Nat.le_of_ble_eq_true rfl) rfl (CI.mono H (fun r10 I11 X12 H => ?_))
  refine r_icmp_eq (n := 516) (tgt := 1389) dL_law_513 (by decide) rfl (fun c => ?_) (fun c => ?_)
  · have H := H.1 c
    exact r_sub [0, 1, 2, 3] rfl H
  · have H := H.2 c
    refine r_iconst (n := 517) (v := 0) dL_law_516 ki_0 rfl ?_
    exact rs_zret dL_law_517 rfl (by decide) H
set_option maxRecDepth 20000 in
theorem rg_L_law_518 {g : OG} {L : Nat} {xs : Nat → Int32} {nm : String} (hscr : scr_xs g L xs) {d : Nat} {I : IT} {X : XT} {K : Int32 → IT → XT → Prop} {l3 : Int32} 
    (H : vp_in (l3 + 1) L ∧
      CI g d iX10_fault [rf g 1, .int (xs (l3 + 1).toNatClampNeg)] I X (fun r2 I3 X4 =>
        vp_in (l3 + 1) L ∧
        CI g d iX11_fault [rf g 129, .int (xs (l3 + 1).toNatClampNeg)] I3 X4 (fun r6 I7 X8 =>
          (r2 = r6 →
            SR g (d + 1) (iLw nm) 1389 [(0, .ref (og_s g)), (1, rf g 1), (2, rf g 129), (3, .int l3)] I7 X8 (qI K)) ∧
          (¬ r2 = r6 →
            K 0 I7 X8)))) : SR g (d + 1) (iLw nm) 518 [(0, .ref (og_s g)), (1, rf g 1), (2, rf g 129), (3, .int l3)] I X (qI K) := by
  refine r_aload_n (n := 519) 1 dL_law_518 rfl rfl ?_
  refine r_aload_n (n := 520) 0 dL_law_519 rfl rfl ?_
  refine r_iload_n (n := 521) 3 dL_law_520 rfl rfl ?_
  refine r_iconst (n := 522) (v := 1) dL_law_521 ki_1 rfl ?_
  refine r_iadd (n := 523) dL_law_522 rfl ?_
  obtain ⟨hi1, H⟩ := H
  refine r_sld (n := 524) hscr hi1 dL_law_523 rfl ?_
  refine rs_cVi (n := 527) (rest := []) (As := [.int _]) vm_X10_fault gw_474 so_1 cq_9 dL_law_524 rfl rfl (Nat.le_of_ble_eq_true rfl) rfl (CI.mono H (fun r2 I3 X4 H => ?_))
  refine r_aload_n (n := 528) 2 dL_law_527 rfl rfl ?_
  refine r_aload_n (n := 529) 0 dL_law_528 rfl rfl ?_
  refine r_iload_n (n := 530) 3 dL_law_529 rfl rfl ?_
  refine r_iconst (n := 531) (v := 1) dL_law_530 ki_1 rfl ?_
  refine r_iadd (n := 532) dL_law_531 rfl ?_
  obtain ⟨hi5, H⟩ := H
  refine r_sld (n := 533) hscr hi5 dL_law_532 rfl ?_
  refine rs_cVi (n := 536) (rest := [.int _]) (As := [.int _]) vm_X11_fault gw_1215 so_129 cq_10 dL_law_533 rfl rfl (Nat.le_of_ble_eq_true rfl) rfl (CI.mono H (fun r6 I7 X8 H => ?_))
  refine r_icmp_eq (n := 539) (tgt := 1389) dL_law_536 (by decide) rfl (fun c => ?_) (fun c => ?_)
  · have H := H.1 c
    exact r_sub [0, 1, 2, 3] rfl H
  · have H := H.2 c
    refine r_iconst (n := 540) (v := 0) dL_law_539 ki_0 rfl ?_
    exact rs_zret dL_law_540 rfl (by decide) H
set_option maxRecDepth 20000 in
theorem rg_L_law_541 {g : OG} {L : Nat} {xs : Nat → Int32} {nm : String} (hscr : scr_xs g L xs) {d : Nat} {I : IT} {X : XT} {K : Int32 → IT → XT → Prop} {l3 : Int32} 
    (H : vp_in (l3 + 1) L ∧
      CI g d iX10_village [rf g 1, .int (xs (l3 + 1).toNatClampNeg)] I X (fun r2 I3 X4 =>
        vp_in (l3 + 1) L ∧
        CI g d iX11_village [rf g 129, .int (xs (l3 + 1).toNatClampNeg)] I3 X4 (fun r6 I7 X8 =>
          (r2 = r6 →
            SR g (d + 1) (iLw nm) 1389 [(0, .ref (og_s g)), (1, rf g 1), (2, rf g 129), (3, .int l3)] I7 X8 (qI K)) ∧
          (¬ r2 = r6 →
            K 0 I7 X8)))) : SR g (d + 1) (iLw nm) 541 [(0, .ref (og_s g)), (1, rf g 1), (2, rf g 129), (3, .int l3)] I X (qI K) := by
  refine r_aload_n (n := 542) 1 dL_law_541 rfl rfl ?_
  refine r_aload_n (n := 543) 0 dL_law_542 rfl rfl ?_
  refine r_iload_n (n := 544) 3 dL_law_543 rfl rfl ?_
  refine r_iconst (n := 545) (v := 1) dL_law_544 ki_1 rfl ?_
  refine r_iadd (n := 546) dL_law_545 rfl ?_
  obtain ⟨hi1, H⟩ := H
  refine r_sld (n := 547) hscr hi1 dL_law_546 rfl ?_
  refine rs_cVi (n := 550) (rest := []) (As := [.int _]) vm_X10_village gw_539 so_1 cq_9 dL_law_547 rfl rfl (Nat.le_of_ble_eq_true rfl) rfl (CI.mono H (fun r2 I3 X4 H => ?_))
  refine r_aload_n (n := 551) 2 dL_law_550 rfl rfl ?_
  refine r_aload_n (n := 552) 0 dL_law_551 rfl rfl ?_
  refine r_iload_n (n := 553) 3 dL_law_552 rfl rfl ?_
  refine r_iconst (n := 554) (v := 1) dL_law_553 ki_1 rfl ?_
  refine r_iadd (n := 555) dL_law_554 rfl ?_
  obtain ⟨hi5, H⟩ := H
  refine r_sld (n := 556) hscr hi5 dL_law_555 rfl ?_
  refine rs_cVi (n := 559) (rest := [.int _]) (As := [.int _]) vm_X11_village gw_1242 so_129 cq_10 dL_law_556 rfl rfl (Nat.le_of_ble_eq_true rfl) rfl (CI.mono H (fun r6 I7 X8 H => ?_))
  refine r_icmp_eq (n := 562) (tgt := 1389) dL_law_559 (by decide) rfl (fun c => ?_) (fun c => ?_)
  · have H := H.1 c
    exact r_sub [0, 1, 2, 3] rfl H
  · have H := H.2 c
    refine r_iconst (n := 563) (v := 0) dL_law_562 ki_0 rfl ?_
    exact rs_zret dL_law_563 rfl (by decide) H
set_option maxRecDepth 20000 in
theorem rg_L_law_564 {g : OG} {L : Nat} {xs : Nat → Int32} {nm : String} (hscr : scr_xs g L xs) {d : Nat} {I : IT} {X : XT} {K : Int32 → IT → XT → Prop} {l3 : Int32} 
    (H : vp_in (l3 + 1) L ∧
      vp_in (l3 + 2) L ∧
      CI g d iX10_house [rf g 1, .int (xs (l3 + 1).toNatClampNeg), .int (xs (l3 + 2).toNatClampNeg)] I X (fun r3 I4 X5 =>
        vp_in (l3 + 1) L ∧
        vp_in (l3 + 2) L ∧
        CI g d iX11_house [rf g 129, .int (xs (l3 + 1).toNatClampNeg), .int (xs (l3 + 2).toNatClampNeg)] I4 X5 (fun r8 I9 X10 =>
          (r3 = r8 →
            SR g (d + 1) (iLw nm) 1389 [(0, .ref (og_s g)), (1, rf g 1), (2, rf g 129), (3, .int l3)] I9 X10 (qI K)) ∧
          (¬ r3 = r8 →
            K 0 I9 X10)))) : SR g (d + 1) (iLw nm) 564 [(0, .ref (og_s g)), (1, rf g 1), (2, rf g 129), (3, .int l3)] I X (qI K) := by
  refine r_aload_n (n := 565) 1 dL_law_564 rfl rfl ?_
  refine r_aload_n (n := 566) 0 dL_law_565 rfl rfl ?_
  refine r_iload_n (n := 567) 3 dL_law_566 rfl rfl ?_
  refine r_iconst (n := 568) (v := 1) dL_law_567 ki_1 rfl ?_
  refine r_iadd (n := 569) dL_law_568 rfl ?_
  obtain ⟨hi1, H⟩ := H
  refine r_sld (n := 570) hscr hi1 dL_law_569 rfl ?_
  refine r_aload_n (n := 571) 0 dL_law_570 rfl rfl ?_
  refine r_iload_n (n := 572) 3 dL_law_571 rfl rfl ?_
  refine r_iconst (n := 573) (v := 2) dL_law_572 ki_2 rfl ?_
  refine r_iadd (n := 574) dL_law_573 rfl ?_
  obtain ⟨hi2, H⟩ := H
  refine r_sld (n := 575) hscr hi2 dL_law_574 rfl ?_
  refine rs_cVi (n := 578) (rest := []) (As := [.int _, .int _]) vm_X10_house gw_555 so_1 cq_9 dL_law_575 rfl rfl (Nat.le_of_ble_eq_true rfl) rfl (CI.mono H (fun r3 I4 X5 H => ?_))
  refine r_aload_n (n := 579) 2 dL_law_578 rfl rfl ?_
  refine r_aload_n (n := 580) 0 dL_law_579 rfl rfl ?_
  refine r_iload_n (n := 581) 3 dL_law_580 rfl rfl ?_
  refine r_iconst (n := 582) (v := 1) dL_law_581 ki_1 rfl ?_
  refine r_iadd (n := 583) dL_law_582 rfl ?_
  obtain ⟨hi6, H⟩ := H
  refine r_sld (n := 584) hscr hi6 dL_law_583 rfl ?_
  refine r_aload_n (n := 585) 0 dL_law_584 rfl rfl ?_
  refine r_iload_n (n := 586) 3 dL_law_585 rfl rfl ?_
  refine r_iconst (n := 587) (v := 2) dL_law_586 ki_2 rfl ?_
  refine r_iadd (n := 588) dL_law_587 rfl ?_
  obtain ⟨hi7, H⟩ := H
  refine r_sld (n := 589) hscr hi7 dL_law_588 rfl ?_
  refine rs_cVi (n := 592) (rest := [.int _]) (As := [.int _, .int _]) vm_X11_house gw_1246 so_129 cq_10 dL_law_589 rfl rfl (Nat.le_of_ble_eq_true rfl) rfl (CI.mono H (fun r8 I9 X10 H => ?_))
  refine r_icmp_eq (n := 595) (tgt := 1389) dL_law_592 (by decide) rfl (fun c => ?_) (fun c => ?_)
  · have H := H.1 c
    exact r_sub [0, 1, 2, 3] rfl H
  · have H := H.2 c
    refine r_iconst (n := 596) (v := 0) dL_law_595 ki_0 rfl ?_
    exact rs_zret dL_law_596 rfl (by decide) H
set_option maxRecDepth 20000 in
theorem rg_L_law_597 {g : OG} {L : Nat} {xs : Nat → Int32} {nm : String} (hscr : scr_xs g L xs) {d : Nat} {I : IT} {X : XT} {K : Int32 → IT → XT → Prop} {l3 : Int32} 
    (H : vp_in (l3 + 1) L ∧
      CI g d iX10_wind [rf g 1, .int (xs (l3 + 1).toNatClampNeg)] I X (fun r2 I3 X4 =>
        vp_in (l3 + 1) L ∧
        CI g d iX11_wind [rf g 129, .int (xs (l3 + 1).toNatClampNeg)] I3 X4 (fun r6 I7 X8 =>
          (r2 = r6 →
            SR g (d + 1) (iLw nm) 1389 [(0, .ref (og_s g)), (1, rf g 1), (2, rf g 129), (3, .int l3)] I7 X8 (qI K)) ∧
          (¬ r2 = r6 →
            K 0 I7 X8)))) : SR g (d + 1) (iLw nm) 597 [(0, .ref (og_s g)), (1, rf g 1), (2, rf g 129), (3, .int l3)] I X (qI K) := by
  refine r_aload_n (n := 598) 1 dL_law_597 rfl rfl ?_
  refine r_aload_n (n := 599) 0 dL_law_598 rfl rfl ?_
  refine r_iload_n (n := 600) 3 dL_law_599 rfl rfl ?_
  refine r_iconst (n := 601) (v := 1) dL_law_600 ki_1 rfl ?_
  refine r_iadd (n := 602) dL_law_601 rfl ?_
  obtain ⟨hi1, H⟩ := H
  refine r_sld (n := 603) hscr hi1 dL_law_602 rfl ?_
  refine rs_cVi (n := 606) (rest := []) (As := [.int _]) vm_X10_wind gw_596 so_1 cq_9 dL_law_603 rfl rfl (Nat.le_of_ble_eq_true rfl) rfl (CI.mono H (fun r2 I3 X4 H => ?_))
  refine r_aload_n (n := 607) 2 dL_law_606 rfl rfl ?_
  refine r_aload_n (n := 608) 0 dL_law_607 rfl rfl ?_
  refine r_iload_n (n := 609) 3 dL_law_608 rfl rfl ?_
  refine r_iconst (n := 610) (v := 1) dL_law_609 ki_1 rfl ?_
  refine r_iadd (n := 611) dL_law_610 rfl ?_
  obtain ⟨hi5, H⟩ := H
  refine r_sld (n := 612) hscr hi5 dL_law_611 rfl ?_
  refine rs_cVi (n := 615) (rest := [.int _]) (As := [.int _]) vm_X11_wind gw_1262 so_129 cq_10 dL_law_612 rfl rfl (Nat.le_of_ble_eq_true rfl) rfl (CI.mono H (fun r6 I7 X8 H => ?_))
  refine r_icmp_eq (n := 618) (tgt := 1389) dL_law_615 (by decide) rfl (fun c => ?_) (fun c => ?_)
  · have H := H.1 c
    exact r_sub [0, 1, 2, 3] rfl H
  · have H := H.2 c
    refine r_iconst (n := 619) (v := 0) dL_law_618 ki_0 rfl ?_
    exact rs_zret dL_law_619 rfl (by decide) H
set_option maxRecDepth 20000 in
theorem rg_L_law_620 {g : OG} {L : Nat} {xs : Nat → Int32} {nm : String} (hscr : scr_xs g L xs) {d : Nat} {I : IT} {X : XT} {K : Int32 → IT → XT → Prop} {l3 : Int32} 
    (H : vp_in (l3 + 1) L ∧
      vp_in (l3 + 2) L ∧
      CI g d iX10_mark [rf g 1, .int (xs (l3 + 1).toNatClampNeg), .int (xs (l3 + 2).toNatClampNeg)] I X (fun r3 I4 X5 =>
        vp_in (l3 + 1) L ∧
        vp_in (l3 + 2) L ∧
        CI g d iX11_mark [rf g 129, .int (xs (l3 + 1).toNatClampNeg), .int (xs (l3 + 2).toNatClampNeg)] I4 X5 (fun r8 I9 X10 =>
          (r3 = r8 →
            SR g (d + 1) (iLw nm) 1389 [(0, .ref (og_s g)), (1, rf g 1), (2, rf g 129), (3, .int l3)] I9 X10 (qI K)) ∧
          (¬ r3 = r8 →
            K 0 I9 X10)))) : SR g (d + 1) (iLw nm) 620 [(0, .ref (og_s g)), (1, rf g 1), (2, rf g 129), (3, .int l3)] I X (qI K) := by
  refine r_aload_n (n := 621) 1 dL_law_620 rfl rfl ?_
  refine r_aload_n (n := 622) 0 dL_law_621 rfl rfl ?_
  refine r_iload_n (n := 623) 3 dL_law_622 rfl rfl ?_
  refine r_iconst (n := 624) (v := 1) dL_law_623 ki_1 rfl ?_
  refine r_iadd (n := 625) dL_law_624 rfl ?_
  obtain ⟨hi1, H⟩ := H
  refine r_sld (n := 626) hscr hi1 dL_law_625 rfl ?_
  refine r_aload_n (n := 627) 0 dL_law_626 rfl rfl ?_
  refine r_iload_n (n := 628) 3 dL_law_627 rfl rfl ?_
  refine r_iconst (n := 629) (v := 2) dL_law_628 ki_2 rfl ?_
  refine r_iadd (n := 630) dL_law_629 rfl ?_
  obtain ⟨hi2, H⟩ := H
  refine r_sld (n := 631) hscr hi2 dL_law_630 rfl ?_
  refine rs_cVi (n := 634) (rest := []) (As := [.int _, .int _]) vm_X10_mark gw_606 so_1 cq_9 dL_law_631 rfl rfl (Nat.le_of_ble_eq_true rfl) rfl (CI.mono H (fun r3 I4 X5 H => ?_))
  refine r_aload_n (n := 635) 2 dL_law_634 rfl rfl ?_
  refine r_aload_n (n := 636) 0 dL_law_635 rfl rfl ?_
  refine r_iload_n (n := 637) 3 dL_law_636 rfl rfl ?_
  refine r_iconst (n := 638) (v := 1) dL_law_637 ki_1 rfl ?_
  refine r_iadd (n := 639) dL_law_638 rfl ?_
  obtain ⟨hi6, H⟩ := H
  refine r_sld (n := 640) hscr hi6 dL_law_639 rfl ?_
  refine r_aload_n (n := 641) 0 dL_law_640 rfl rfl ?_
  refine r_iload_n (n := 642) 3 dL_law_641 rfl rfl ?_
  refine r_iconst (n := 643) (v := 2) dL_law_642 ki_2 rfl ?_
  refine r_iadd (n := 644) dL_law_643 rfl ?_
  obtain ⟨hi7, H⟩ := H
  refine r_sld (n := 645) hscr hi7 dL_law_644 rfl ?_
  refine rs_cVi (n := 648) (rest := [.int _]) (As := [.int _, .int _]) vm_X11_mark gw_1270 so_129 cq_10 dL_law_645 rfl rfl (Nat.le_of_ble_eq_true rfl) rfl (CI.mono H (fun r8 I9 X10 H => ?_))
  refine r_icmp_eq (n := 651) (tgt := 1389) dL_law_648 (by decide) rfl (fun c => ?_) (fun c => ?_)
  · have H := H.1 c
    exact r_sub [0, 1, 2, 3] rfl H
  · have H := H.2 c
    refine r_iconst (n := 652) (v := 0) dL_law_651 ki_0 rfl ?_
    exact rs_zret dL_law_652 rfl (by decide) H
set_option maxRecDepth 20000 in
theorem rg_L_law_653 {g : OG} {L : Nat} {xs : Nat → Int32} {nm : String} (hscr : scr_xs g L xs) {d : Nat} {I : IT} {X : XT} {K : Int32 → IT → XT → Prop} {l3 : Int32} 
    (H : vp_in (l3 + 1) L ∧
      vp_in (l3 + 2) L ∧
      CI g d iX10_stack [rf g 1, .int (xs (l3 + 1).toNatClampNeg), .int (xs (l3 + 2).toNatClampNeg)] I X (fun r3 I4 X5 =>
        vp_in (l3 + 1) L ∧
        vp_in (l3 + 2) L ∧
        CI g d iX11_stack [rf g 129, .int (xs (l3 + 1).toNatClampNeg), .int (xs (l3 + 2).toNatClampNeg)] I4 X5 (fun r8 I9 X10 =>
          (r3 = r8 →
            SR g (d + 1) (iLw nm) 1389 [(0, .ref (og_s g)), (1, rf g 1), (2, rf g 129), (3, .int l3)] I9 X10 (qI K)) ∧
          (¬ r3 = r8 →
            K 0 I9 X10)))) : SR g (d + 1) (iLw nm) 653 [(0, .ref (og_s g)), (1, rf g 1), (2, rf g 129), (3, .int l3)] I X (qI K) := by
  refine r_aload_n (n := 654) 1 dL_law_653 rfl rfl ?_
  refine r_aload_n (n := 655) 0 dL_law_654 rfl rfl ?_
  refine r_iload_n (n := 656) 3 dL_law_655 rfl rfl ?_
  refine r_iconst (n := 657) (v := 1) dL_law_656 ki_1 rfl ?_
  refine r_iadd (n := 658) dL_law_657 rfl ?_
  obtain ⟨hi1, H⟩ := H
  refine r_sld (n := 659) hscr hi1 dL_law_658 rfl ?_
  refine r_aload_n (n := 660) 0 dL_law_659 rfl rfl ?_
  refine r_iload_n (n := 661) 3 dL_law_660 rfl rfl ?_
  refine r_iconst (n := 662) (v := 2) dL_law_661 ki_2 rfl ?_
  refine r_iadd (n := 663) dL_law_662 rfl ?_
  obtain ⟨hi2, H⟩ := H
  refine r_sld (n := 664) hscr hi2 dL_law_663 rfl ?_
  refine rs_cVi (n := 667) (rest := []) (As := [.int _, .int _]) vm_X10_stack gw_631 so_1 cq_9 dL_law_664 rfl rfl (Nat.le_of_ble_eq_true rfl) rfl (CI.mono H (fun r3 I4 X5 H => ?_))
  refine r_aload_n (n := 668) 2 dL_law_667 rfl rfl ?_
  refine r_aload_n (n := 669) 0 dL_law_668 rfl rfl ?_
  refine r_iload_n (n := 670) 3 dL_law_669 rfl rfl ?_
  refine r_iconst (n := 671) (v := 1) dL_law_670 ki_1 rfl ?_
  refine r_iadd (n := 672) dL_law_671 rfl ?_
  obtain ⟨hi6, H⟩ := H
  refine r_sld (n := 673) hscr hi6 dL_law_672 rfl ?_
  refine r_aload_n (n := 674) 0 dL_law_673 rfl rfl ?_
  refine r_iload_n (n := 675) 3 dL_law_674 rfl rfl ?_
  refine r_iconst (n := 676) (v := 2) dL_law_675 ki_2 rfl ?_
  refine r_iadd (n := 677) dL_law_676 rfl ?_
  obtain ⟨hi7, H⟩ := H
  refine r_sld (n := 678) hscr hi7 dL_law_677 rfl ?_
  refine rs_cVi (n := 681) (rest := [.int _]) (As := [.int _, .int _]) vm_X11_stack gw_1286 so_129 cq_10 dL_law_678 rfl rfl (Nat.le_of_ble_eq_true rfl) rfl (CI.mono H (fun r8 I9 X10 H => ?_))
  refine r_icmp_eq (n := 684) (tgt := 1389) dL_law_681 (by decide) rfl (fun c => ?_) (fun c => ?_)
  · have H := H.1 c
    exact r_sub [0, 1, 2, 3] rfl H
  · have H := H.2 c
    refine r_iconst (n := 685) (v := 0) dL_law_684 ki_0 rfl ?_
    exact rs_zret dL_law_685 rfl (by decide) H
set_option maxRecDepth 20000 in
theorem rg_L_law_686 {g : OG} {L : Nat} {xs : Nat → Int32} {nm : String} (hscr : scr_xs g L xs) {d : Nat} {I : IT} {X : XT} {K : Int32 → IT → XT → Prop} {l3 : Int32} 
    (H : vp_in (l3 + 1) L ∧
      CI g d iX10_strike [rf g 1, .int (xs (l3 + 1).toNatClampNeg)] I X (fun r2 I3 X4 =>
        vp_in (l3 + 1) L ∧
        CI g d iX11_strike [rf g 129, .int (xs (l3 + 1).toNatClampNeg)] I3 X4 (fun r6 I7 X8 =>
          (r2 = r6 →
            SR g (d + 1) (iLw nm) 1389 [(0, .ref (og_s g)), (1, rf g 1), (2, rf g 129), (3, .int l3)] I7 X8 (qI K)) ∧
          (¬ r2 = r6 →
            K 0 I7 X8)))) : SR g (d + 1) (iLw nm) 686 [(0, .ref (og_s g)), (1, rf g 1), (2, rf g 129), (3, .int l3)] I X (qI K) := by
  refine r_aload_n (n := 687) 1 dL_law_686 rfl rfl ?_
  refine r_aload_n (n := 688) 0 dL_law_687 rfl rfl ?_
  refine r_iload_n (n := 689) 3 dL_law_688 rfl rfl ?_
  refine r_iconst (n := 690) (v := 1) dL_law_689 ki_1 rfl ?_
  refine r_iadd (n := 691) dL_law_690 rfl ?_
  obtain ⟨hi1, H⟩ := H
  refine r_sld (n := 692) hscr hi1 dL_law_691 rfl ?_
  refine rs_cVi (n := 695) (rest := []) (As := [.int _]) vm_X10_strike gw_641 so_1 cq_9 dL_law_692 rfl rfl (Nat.le_of_ble_eq_true rfl) rfl (CI.mono H (fun r2 I3 X4 H => ?_))
  refine r_aload_n (n := 696) 2 dL_law_695 rfl rfl ?_
  refine r_aload_n (n := 697) 0 dL_law_696 rfl rfl ?_
  refine r_iload_n (n := 698) 3 dL_law_697 rfl rfl ?_
  refine r_iconst (n := 699) (v := 1) dL_law_698 ki_1 rfl ?_
  refine r_iadd (n := 700) dL_law_699 rfl ?_
  obtain ⟨hi5, H⟩ := H
  refine r_sld (n := 701) hscr hi5 dL_law_700 rfl ?_
  refine rs_cVi (n := 704) (rest := [.int _]) (As := [.int _]) vm_X11_strike gw_1290 so_129 cq_10 dL_law_701 rfl rfl (Nat.le_of_ble_eq_true rfl) rfl (CI.mono H (fun r6 I7 X8 H => ?_))
  refine r_icmp_eq (n := 707) (tgt := 1389) dL_law_704 (by decide) rfl (fun c => ?_) (fun c => ?_)
  · have H := H.1 c
    exact r_sub [0, 1, 2, 3] rfl H
  · have H := H.2 c
    refine r_iconst (n := 708) (v := 0) dL_law_707 ki_0 rfl ?_
    exact rs_zret dL_law_708 rfl (by decide) H
set_option maxRecDepth 20000 in
theorem rg_L_law_709 {g : OG} {L : Nat} {xs : Nat → Int32} {nm : String} (hscr : scr_xs g L xs) {d : Nat} {I : IT} {X : XT} {K : Int32 → IT → XT → Prop} {l3 : Int32} 
    (H : vp_in (l3 + 1) L ∧
      vp_in (l3 + 2) L ∧
      CI g d iX10_carry [rf g 1, .int (xs (l3 + 1).toNatClampNeg), .int (xs (l3 + 2).toNatClampNeg)] I X (fun r3 I4 X5 =>
        vp_in (l3 + 1) L ∧
        vp_in (l3 + 2) L ∧
        CI g d iX11_carry [rf g 129, .int (xs (l3 + 1).toNatClampNeg), .int (xs (l3 + 2).toNatClampNeg)] I4 X5 (fun r8 I9 X10 =>
          (r3 = r8 →
            SR g (d + 1) (iLw nm) 1389 [(0, .ref (og_s g)), (1, rf g 1), (2, rf g 129), (3, .int l3)] I9 X10 (qI K)) ∧
          (¬ r3 = r8 →
            K 0 I9 X10)))) : SR g (d + 1) (iLw nm) 709 [(0, .ref (og_s g)), (1, rf g 1), (2, rf g 129), (3, .int l3)] I X (qI K) := by
  refine r_aload_n (n := 710) 1 dL_law_709 rfl rfl ?_
  refine r_aload_n (n := 711) 0 dL_law_710 rfl rfl ?_
  refine r_iload_n (n := 712) 3 dL_law_711 rfl rfl ?_
  refine r_iconst (n := 713) (v := 1) dL_law_712 ki_1 rfl ?_
  refine r_iadd (n := 714) dL_law_713 rfl ?_
  obtain ⟨hi1, H⟩ := H
  refine r_sld (n := 715) hscr hi1 dL_law_714 rfl ?_
  refine r_aload_n (n := 716) 0 dL_law_715 rfl rfl ?_
  refine r_iload_n (n := 717) 3 dL_law_716 rfl rfl ?_
  refine r_iconst (n := 718) (v := 2) dL_law_717 ki_2 rfl ?_
  refine r_iadd (n := 719) dL_law_718 rfl ?_
  obtain ⟨hi2, H⟩ := H
  refine r_sld (n := 720) hscr hi2 dL_law_719 rfl ?_
  refine rs_cVi (n := 723) (rest := []) (As := [.int _, .int _]) vm_X10_carry gw_684 so_1 cq_9 dL_law_720 rfl rfl (Nat.le_of_ble_eq_true rfl) rfl (CI.mono H (fun r3 I4 X5 H => ?_))
  refine r_aload_n (n := 724) 2 dL_law_723 rfl rfl ?_
  refine r_aload_n (n := 725) 0 dL_law_724 rfl rfl ?_
  refine r_iload_n (n := 726) 3 dL_law_725 rfl rfl ?_
  refine r_iconst (n := 727) (v := 1) dL_law_726 ki_1 rfl ?_
  refine r_iadd (n := 728) dL_law_727 rfl ?_
  obtain ⟨hi6, H⟩ := H
  refine r_sld (n := 729) hscr hi6 dL_law_728 rfl ?_
  refine r_aload_n (n := 730) 0 dL_law_729 rfl rfl ?_
  refine r_iload_n (n := 731) 3 dL_law_730 rfl rfl ?_
  refine r_iconst (n := 732) (v := 2) dL_law_731 ki_2 rfl ?_
  refine r_iadd (n := 733) dL_law_732 rfl ?_
  obtain ⟨hi7, H⟩ := H
  refine r_sld (n := 734) hscr hi7 dL_law_733 rfl ?_
  refine rs_cVi (n := 737) (rest := [.int _]) (As := [.int _, .int _]) vm_X11_carry gw_1298 so_129 cq_10 dL_law_734 rfl rfl (Nat.le_of_ble_eq_true rfl) rfl (CI.mono H (fun r8 I9 X10 H => ?_))
  refine r_icmp_eq (n := 740) (tgt := 1389) dL_law_737 (by decide) rfl (fun c => ?_) (fun c => ?_)
  · have H := H.1 c
    exact r_sub [0, 1, 2, 3] rfl H
  · have H := H.2 c
    refine r_iconst (n := 741) (v := 0) dL_law_740 ki_0 rfl ?_
    exact rs_zret dL_law_741 rfl (by decide) H
set_option maxRecDepth 20000 in
theorem rg_L_law_742 {g : OG} {L : Nat} {xs : Nat → Int32} {nm : String} (hscr : scr_xs g L xs) {d : Nat} {I : IT} {X : XT} {K : Int32 → IT → XT → Prop} {l3 : Int32} 
    (H : CI g d iX10_hour [rf g 1] I X (fun r1 I2 X3 =>
        CI g d iX11_hour [rf g 129] I2 X3 (fun r4 I5 X6 =>
          (r1 = r4 →
            SR g (d + 1) (iLw nm) 1389 [(0, .ref (og_s g)), (1, rf g 1), (2, rf g 129), (3, .int l3)] I5 X6 (qI K)) ∧
          (¬ r1 = r4 →
            K 0 I5 X6)))) : SR g (d + 1) (iLw nm) 742 [(0, .ref (og_s g)), (1, rf g 1), (2, rf g 129), (3, .int l3)] I X (qI K) := by
  refine r_aload_n (n := 743) 1 dL_law_742 rfl rfl ?_
  refine rs_cVi (n := 746) (rest := []) (As := []) vm_X10_hour gw_707 so_1 cq_9 dL_law_743 rfl rfl (Nat.le_of_ble_eq_true rfl) rfl (CI.mono H (fun r1 I2 X3 H => ?_))
  refine r_aload_n (n := 747) 2 dL_law_746 rfl rfl ?_
  refine rs_cVi (n := 750) (rest := [.int _]) (As := []) vm_X11_hour gw_1328 so_129 cq_10 dL_law_747 rfl rfl (Nat.le_of_ble_eq_true rfl) rfl (CI.mono H (fun r4 I5 X6 H => ?_))
  refine r_icmp_eq (n := 753) (tgt := 1389) dL_law_750 (by decide) rfl (fun c => ?_) (fun c => ?_)
  · have H := H.1 c
    exact r_sub [0, 1, 2, 3] rfl H
  · have H := H.2 c
    refine r_iconst (n := 754) (v := 0) dL_law_753 ki_0 rfl ?_
    exact rs_zret dL_law_754 rfl (by decide) H
set_option maxRecDepth 20000 in
theorem rg_L_law_755 {g : OG} {L : Nat} {xs : Nat → Int32} {nm : String} (hscr : scr_xs g L xs) {d : Nat} {I : IT} {X : XT} {K : Int32 → IT → XT → Prop} {l3 : Int32} 
    (H : vp_in (l3 + 1) L ∧
      CI g d iX10_undo [rf g 1, .int (xs (l3 + 1).toNatClampNeg)] I X (fun r2 I3 X4 =>
        vp_in (l3 + 1) L ∧
        CI g d iX11_undo [rf g 129, .int (xs (l3 + 1).toNatClampNeg)] I3 X4 (fun r6 I7 X8 =>
          (r2 = r6 →
            SR g (d + 1) (iLw nm) 1389 [(0, .ref (og_s g)), (1, rf g 1), (2, rf g 129), (3, .int l3)] I7 X8 (qI K)) ∧
          (¬ r2 = r6 →
            K 0 I7 X8)))) : SR g (d + 1) (iLw nm) 755 [(0, .ref (og_s g)), (1, rf g 1), (2, rf g 129), (3, .int l3)] I X (qI K) := by
  refine r_aload_n (n := 756) 1 dL_law_755 rfl rfl ?_
  refine r_aload_n (n := 757) 0 dL_law_756 rfl rfl ?_
  refine r_iload_n (n := 758) 3 dL_law_757 rfl rfl ?_
  refine r_iconst (n := 759) (v := 1) dL_law_758 ki_1 rfl ?_
  refine r_iadd (n := 760) dL_law_759 rfl ?_
  obtain ⟨hi1, H⟩ := H
  refine r_sld (n := 761) hscr hi1 dL_law_760 rfl ?_
  refine rs_cVi (n := 764) (rest := []) (As := [.int _]) vm_X10_undo gw_711 so_1 cq_9 dL_law_761 rfl rfl (Nat.le_of_ble_eq_true rfl) rfl (CI.mono H (fun r2 I3 X4 H => ?_))
  refine r_aload_n (n := 765) 2 dL_law_764 rfl rfl ?_
  refine r_aload_n (n := 766) 0 dL_law_765 rfl rfl ?_
  refine r_iload_n (n := 767) 3 dL_law_766 rfl rfl ?_
  refine r_iconst (n := 768) (v := 1) dL_law_767 ki_1 rfl ?_
  refine r_iadd (n := 769) dL_law_768 rfl ?_
  obtain ⟨hi5, H⟩ := H
  refine r_sld (n := 770) hscr hi5 dL_law_769 rfl ?_
  refine rs_cVi (n := 773) (rest := [.int _]) (As := [.int _]) vm_X11_undo gw_1339 so_129 cq_10 dL_law_770 rfl rfl (Nat.le_of_ble_eq_true rfl) rfl (CI.mono H (fun r6 I7 X8 H => ?_))
  refine r_icmp_eq (n := 776) (tgt := 1389) dL_law_773 (by decide) rfl (fun c => ?_) (fun c => ?_)
  · have H := H.1 c
    exact r_sub [0, 1, 2, 3] rfl H
  · have H := H.2 c
    refine r_iconst (n := 777) (v := 0) dL_law_776 ki_0 rfl ?_
    exact rs_zret dL_law_777 rfl (by decide) H
set_option maxRecDepth 20000 in
theorem rg_L_law_778 {g : OG} {L : Nat} {xs : Nat → Int32} {nm : String} (hscr : scr_xs g L xs) {d : Nat} {I : IT} {X : XT} {K : Int32 → IT → XT → Prop} {l3 : Int32} 
    (H : vp_in (l3 + 1) L ∧
      CI g d iX10_keep [rf g 1, .int (xs (l3 + 1).toNatClampNeg)] I X (fun r2 I3 X4 =>
        vp_in (l3 + 1) L ∧
        CI g d iX11_keep [rf g 129, .int (xs (l3 + 1).toNatClampNeg)] I3 X4 (fun r6 I7 X8 =>
          (r2 = r6 →
            SR g (d + 1) (iLw nm) 1389 [(0, .ref (og_s g)), (1, rf g 1), (2, rf g 129), (3, .int l3)] I7 X8 (qI K)) ∧
          (¬ r2 = r6 →
            K 0 I7 X8)))) : SR g (d + 1) (iLw nm) 778 [(0, .ref (og_s g)), (1, rf g 1), (2, rf g 129), (3, .int l3)] I X (qI K) := by
  refine r_aload_n (n := 779) 1 dL_law_778 rfl rfl ?_
  refine r_aload_n (n := 780) 0 dL_law_779 rfl rfl ?_
  refine r_iload_n (n := 781) 3 dL_law_780 rfl rfl ?_
  refine r_iconst (n := 782) (v := 1) dL_law_781 ki_1 rfl ?_
  refine r_iadd (n := 783) dL_law_782 rfl ?_
  obtain ⟨hi1, H⟩ := H
  refine r_sld (n := 784) hscr hi1 dL_law_783 rfl ?_
  refine rs_cVi (n := 787) (rest := []) (As := [.int _]) vm_X10_keep gw_719 so_1 cq_9 dL_law_784 rfl rfl (Nat.le_of_ble_eq_true rfl) rfl (CI.mono H (fun r2 I3 X4 H => ?_))
  refine r_aload_n (n := 788) 2 dL_law_787 rfl rfl ?_
  refine r_aload_n (n := 789) 0 dL_law_788 rfl rfl ?_
  refine r_iload_n (n := 790) 3 dL_law_789 rfl rfl ?_
  refine r_iconst (n := 791) (v := 1) dL_law_790 ki_1 rfl ?_
  refine r_iadd (n := 792) dL_law_791 rfl ?_
  obtain ⟨hi5, H⟩ := H
  refine r_sld (n := 793) hscr hi5 dL_law_792 rfl ?_
  refine rs_cVi (n := 796) (rest := [.int _]) (As := [.int _]) vm_X11_keep gw_1343 so_129 cq_10 dL_law_793 rfl rfl (Nat.le_of_ble_eq_true rfl) rfl (CI.mono H (fun r6 I7 X8 H => ?_))
  refine r_icmp_eq (n := 799) (tgt := 1389) dL_law_796 (by decide) rfl (fun c => ?_) (fun c => ?_)
  · have H := H.1 c
    exact r_sub [0, 1, 2, 3] rfl H
  · have H := H.2 c
    refine r_iconst (n := 800) (v := 0) dL_law_799 ki_0 rfl ?_
    exact rs_zret dL_law_800 rfl (by decide) H
set_option maxRecDepth 20000 in
theorem rg_L_law_801 {g : OG} {L : Nat} {xs : Nat → Int32} {nm : String} (hscr : scr_xs g L xs) {d : Nat} {I : IT} {X : XT} {K : Int32 → IT → XT → Prop} {l3 : Int32} 
    (H : vp_in (l3 + 1) L ∧
      CI g d iX10_on [rf g 1, .int (xs (l3 + 1).toNatClampNeg)] I X (fun r2 I3 X4 =>
        vp_in (l3 + 1) L ∧
        CI g d iX11_on [rf g 129, .int (xs (l3 + 1).toNatClampNeg)] I3 X4 (fun r6 I7 X8 =>
          (r2 = r6 →
            SR g (d + 1) (iLw nm) 1389 [(0, .ref (og_s g)), (1, rf g 1), (2, rf g 129), (3, .int l3)] I7 X8 (qI K)) ∧
          (¬ r2 = r6 →
            K 0 I7 X8)))) : SR g (d + 1) (iLw nm) 801 [(0, .ref (og_s g)), (1, rf g 1), (2, rf g 129), (3, .int l3)] I X (qI K) := by
  refine r_aload_n (n := 802) 1 dL_law_801 rfl rfl ?_
  refine r_aload_n (n := 803) 0 dL_law_802 rfl rfl ?_
  refine r_iload_n (n := 804) 3 dL_law_803 rfl rfl ?_
  refine r_iconst (n := 805) (v := 1) dL_law_804 ki_1 rfl ?_
  refine r_iadd (n := 806) dL_law_805 rfl ?_
  obtain ⟨hi1, H⟩ := H
  refine r_sld (n := 807) hscr hi1 dL_law_806 rfl ?_
  refine rs_cVi (n := 810) (rest := []) (As := [.int _]) vm_X10_on gw_731 so_1 cq_9 dL_law_807 rfl rfl (Nat.le_of_ble_eq_true rfl) rfl (CI.mono H (fun r2 I3 X4 H => ?_))
  refine r_aload_n (n := 811) 2 dL_law_810 rfl rfl ?_
  refine r_aload_n (n := 812) 0 dL_law_811 rfl rfl ?_
  refine r_iload_n (n := 813) 3 dL_law_812 rfl rfl ?_
  refine r_iconst (n := 814) (v := 1) dL_law_813 ki_1 rfl ?_
  refine r_iadd (n := 815) dL_law_814 rfl ?_
  obtain ⟨hi5, H⟩ := H
  refine r_sld (n := 816) hscr hi5 dL_law_815 rfl ?_
  refine rs_cVi (n := 819) (rest := [.int _]) (As := [.int _]) vm_X11_on gw_1347 so_129 cq_10 dL_law_816 rfl rfl (Nat.le_of_ble_eq_true rfl) rfl (CI.mono H (fun r6 I7 X8 H => ?_))
  refine r_icmp_eq (n := 822) (tgt := 1389) dL_law_819 (by decide) rfl (fun c => ?_) (fun c => ?_)
  · have H := H.1 c
    exact r_sub [0, 1, 2, 3] rfl H
  · have H := H.2 c
    refine r_iconst (n := 823) (v := 0) dL_law_822 ki_0 rfl ?_
    exact rs_zret dL_law_823 rfl (by decide) H
set_option maxRecDepth 20000 in
theorem rg_L_law_824 {g : OG} {L : Nat} {xs : Nat → Int32} {nm : String} (hscr : scr_xs g L xs) {d : Nat} {I : IT} {X : XT} {K : Int32 → IT → XT → Prop} {l3 : Int32} 
    (H : CI g d iX10_fires [rf g 1] I X (fun r1 I2 X3 =>
        CI g d iX11_fires [rf g 129] I2 X3 (fun r4 I5 X6 =>
          (r1 = r4 →
            SR g (d + 1) (iLw nm) 1389 [(0, .ref (og_s g)), (1, rf g 1), (2, rf g 129), (3, .int l3)] I5 X6 (qI K)) ∧
          (¬ r1 = r4 →
            K 0 I5 X6)))) : SR g (d + 1) (iLw nm) 824 [(0, .ref (og_s g)), (1, rf g 1), (2, rf g 129), (3, .int l3)] I X (qI K) := by
  refine r_aload_n (n := 825) 1 dL_law_824 rfl rfl ?_
  refine rs_cVi (n := 828) (rest := []) (As := []) vm_X10_fires gw_735 so_1 cq_9 dL_law_825 rfl rfl (Nat.le_of_ble_eq_true rfl) rfl (CI.mono H (fun r1 I2 X3 H => ?_))
  refine r_aload_n (n := 829) 2 dL_law_828 rfl rfl ?_
  refine rs_cVi (n := 832) (rest := [.int _]) (As := []) vm_X11_fires gw_1351 so_129 cq_10 dL_law_829 rfl rfl (Nat.le_of_ble_eq_true rfl) rfl (CI.mono H (fun r4 I5 X6 H => ?_))
  refine r_icmp_eq (n := 835) (tgt := 1389) dL_law_832 (by decide) rfl (fun c => ?_) (fun c => ?_)
  · have H := H.1 c
    exact r_sub [0, 1, 2, 3] rfl H
  · have H := H.2 c
    refine r_iconst (n := 836) (v := 0) dL_law_835 ki_0 rfl ?_
    exact rs_zret dL_law_836 rfl (by decide) H
set_option maxRecDepth 20000 in
theorem rg_L_law_837 {g : OG} {L : Nat} {xs : Nat → Int32} {nm : String} (hscr : scr_xs g L xs) {d : Nat} {I : IT} {X : XT} {K : Int32 → IT → XT → Prop} {l3 : Int32} 
    (H : CI g d iX10_reach [rf g 1] I X (fun r1 I2 X3 =>
        CI g d iX11_reach [rf g 129] I2 X3 (fun r4 I5 X6 =>
          (r1 = r4 →
            SR g (d + 1) (iLw nm) 1389 [(0, .ref (og_s g)), (1, rf g 1), (2, rf g 129), (3, .int l3)] I5 X6 (qI K)) ∧
          (¬ r1 = r4 →
            K 0 I5 X6)))) : SR g (d + 1) (iLw nm) 837 [(0, .ref (og_s g)), (1, rf g 1), (2, rf g 129), (3, .int l3)] I X (qI K) := by
  refine r_aload_n (n := 838) 1 dL_law_837 rfl rfl ?_
  refine rs_cVi (n := 841) (rest := []) (As := []) vm_X10_reach gw_743 so_1 cq_9 dL_law_838 rfl rfl (Nat.le_of_ble_eq_true rfl) rfl (CI.mono H (fun r1 I2 X3 H => ?_))
  refine r_aload_n (n := 842) 2 dL_law_841 rfl rfl ?_
  refine rs_cVi (n := 845) (rest := [.int _]) (As := []) vm_X11_reach gw_1359 so_129 cq_10 dL_law_842 rfl rfl (Nat.le_of_ble_eq_true rfl) rfl (CI.mono H (fun r4 I5 X6 H => ?_))
  refine r_icmp_eq (n := 848) (tgt := 1389) dL_law_845 (by decide) rfl (fun c => ?_) (fun c => ?_)
  · have H := H.1 c
    exact r_sub [0, 1, 2, 3] rfl H
  · have H := H.2 c
    refine r_iconst (n := 849) (v := 0) dL_law_848 ki_0 rfl ?_
    exact rs_zret dL_law_849 rfl (by decide) H
set_option maxRecDepth 20000 in
theorem rg_L_law_850 {g : OG} {L : Nat} {xs : Nat → Int32} {nm : String} (hscr : scr_xs g L xs) {d : Nat} {I : IT} {X : XT} {K : Int32 → IT → XT → Prop} {l3 : Int32} 
    (H : vp_in (l3 + 1) L ∧
      CI g d iX10_lasts [rf g 1, .int (xs (l3 + 1).toNatClampNeg)] I X (fun r2 I3 X4 =>
        vp_in (l3 + 1) L ∧
        CI g d iX11_lasts [rf g 129, .int (xs (l3 + 1).toNatClampNeg)] I3 X4 (fun r6 I7 X8 =>
          (r2 = r6 →
            SR g (d + 1) (iLw nm) 1389 [(0, .ref (og_s g)), (1, rf g 1), (2, rf g 129), (3, .int l3)] I7 X8 (qI K)) ∧
          (¬ r2 = r6 →
            K 0 I7 X8)))) : SR g (d + 1) (iLw nm) 850 [(0, .ref (og_s g)), (1, rf g 1), (2, rf g 129), (3, .int l3)] I X (qI K) := by
  refine r_aload_n (n := 851) 1 dL_law_850 rfl rfl ?_
  refine r_aload_n (n := 852) 0 dL_law_851 rfl rfl ?_
  refine r_iload_n (n := 853) 3 dL_law_852 rfl rfl ?_
  refine r_iconst (n := 854) (v := 1) dL_law_853 ki_1 rfl ?_
  refine r_iadd (n := 855) dL_law_854 rfl ?_
  obtain ⟨hi1, H⟩ := H
  refine r_sld (n := 856) hscr hi1 dL_law_855 rfl ?_
  refine rs_cVi (n := 859) (rest := []) (As := [.int _]) vm_X10_lasts gw_756 so_1 cq_9 dL_law_856 rfl rfl (Nat.le_of_ble_eq_true rfl) rfl (CI.mono H (fun r2 I3 X4 H => ?_))
  refine r_aload_n (n := 860) 2 dL_law_859 rfl rfl ?_
  refine r_aload_n (n := 861) 0 dL_law_860 rfl rfl ?_
  refine r_iload_n (n := 862) 3 dL_law_861 rfl rfl ?_
  refine r_iconst (n := 863) (v := 1) dL_law_862 ki_1 rfl ?_
  refine r_iadd (n := 864) dL_law_863 rfl ?_
  obtain ⟨hi5, H⟩ := H
  refine r_sld (n := 865) hscr hi5 dL_law_864 rfl ?_
  refine rs_cVi (n := 868) (rest := [.int _]) (As := [.int _]) vm_X11_lasts gw_1363 so_129 cq_10 dL_law_865 rfl rfl (Nat.le_of_ble_eq_true rfl) rfl (CI.mono H (fun r6 I7 X8 H => ?_))
  refine r_icmp_eq (n := 871) (tgt := 1389) dL_law_868 (by decide) rfl (fun c => ?_) (fun c => ?_)
  · have H := H.1 c
    exact r_sub [0, 1, 2, 3] rfl H
  · have H := H.2 c
    refine r_iconst (n := 872) (v := 0) dL_law_871 ki_0 rfl ?_
    exact rs_zret dL_law_872 rfl (by decide) H
set_option maxRecDepth 20000 in
theorem rg_L_law_873 {g : OG} {L : Nat} {xs : Nat → Int32} {nm : String} (hscr : scr_xs g L xs) {d : Nat} {I : IT} {X : XT} {K : Int32 → IT → XT → Prop} {l3 : Int32} 
    (H : CI g d iX10_dark [rf g 1] I X (fun r1 I2 X3 =>
        CI g d iX11_dark [rf g 129] I2 X3 (fun r4 I5 X6 =>
          (r1 = r4 →
            SR g (d + 1) (iLw nm) 1389 [(0, .ref (og_s g)), (1, rf g 1), (2, rf g 129), (3, .int l3)] I5 X6 (qI K)) ∧
          (¬ r1 = r4 →
            K 0 I5 X6)))) : SR g (d + 1) (iLw nm) 873 [(0, .ref (og_s g)), (1, rf g 1), (2, rf g 129), (3, .int l3)] I X (qI K) := by
  refine r_aload_n (n := 874) 1 dL_law_873 rfl rfl ?_
  refine rs_cVi (n := 877) (rest := []) (As := []) vm_X10_dark gw_769 so_1 cq_9 dL_law_874 rfl rfl (Nat.le_of_ble_eq_true rfl) rfl (CI.mono H (fun r1 I2 X3 H => ?_))
  refine r_aload_n (n := 878) 2 dL_law_877 rfl rfl ?_
  refine rs_cVi (n := 881) (rest := [.int _]) (As := []) vm_X11_dark gw_1375 so_129 cq_10 dL_law_878 rfl rfl (Nat.le_of_ble_eq_true rfl) rfl (CI.mono H (fun r4 I5 X6 H => ?_))
  refine r_icmp_eq (n := 884) (tgt := 1389) dL_law_881 (by decide) rfl (fun c => ?_) (fun c => ?_)
  · have H := H.1 c
    exact r_sub [0, 1, 2, 3] rfl H
  · have H := H.2 c
    refine r_iconst (n := 885) (v := 0) dL_law_884 ki_0 rfl ?_
    exact rs_zret dL_law_885 rfl (by decide) H
set_option maxRecDepth 20000 in
theorem rg_L_law_886 {g : OG} {L : Nat} {xs : Nat → Int32} {nm : String} (hscr : scr_xs g L xs) {d : Nat} {I : IT} {X : XT} {K : Int32 → IT → XT → Prop} {l3 : Int32} 
    (H : vp_in (l3 + 1) L ∧
      CI g d iX10_worst [rf g 1, .int (xs (l3 + 1).toNatClampNeg)] I X (fun r2 I3 X4 =>
        vp_in (l3 + 1) L ∧
        CI g d iX11_worst [rf g 129, .int (xs (l3 + 1).toNatClampNeg)] I3 X4 (fun r6 I7 X8 =>
          (r2 = r6 →
            SR g (d + 1) (iLw nm) 1389 [(0, .ref (og_s g)), (1, rf g 1), (2, rf g 129), (3, .int l3)] I7 X8 (qI K)) ∧
          (¬ r2 = r6 →
            K 0 I7 X8)))) : SR g (d + 1) (iLw nm) 886 [(0, .ref (og_s g)), (1, rf g 1), (2, rf g 129), (3, .int l3)] I X (qI K) := by
  refine r_aload_n (n := 887) 1 dL_law_886 rfl rfl ?_
  refine r_aload_n (n := 888) 0 dL_law_887 rfl rfl ?_
  refine r_iload_n (n := 889) 3 dL_law_888 rfl rfl ?_
  refine r_iconst (n := 890) (v := 1) dL_law_889 ki_1 rfl ?_
  refine r_iadd (n := 891) dL_law_890 rfl ?_
  obtain ⟨hi1, H⟩ := H
  refine r_sld (n := 892) hscr hi1 dL_law_891 rfl ?_
  refine rs_cVi (n := 895) (rest := []) (As := [.int _]) vm_X10_worst gw_774 so_1 cq_9 dL_law_892 rfl rfl (Nat.le_of_ble_eq_true rfl) rfl (CI.mono H (fun r2 I3 X4 H => ?_))
  refine r_aload_n (n := 896) 2 dL_law_895 rfl rfl ?_
  refine r_aload_n (n := 897) 0 dL_law_896 rfl rfl ?_
  refine r_iload_n (n := 898) 3 dL_law_897 rfl rfl ?_
  refine r_iconst (n := 899) (v := 1) dL_law_898 ki_1 rfl ?_
  refine r_iadd (n := 900) dL_law_899 rfl ?_
  obtain ⟨hi5, H⟩ := H
  refine r_sld (n := 901) hscr hi5 dL_law_900 rfl ?_
  refine rs_cVi (n := 904) (rest := [.int _]) (As := [.int _]) vm_X11_worst gw_1383 so_129 cq_10 dL_law_901 rfl rfl (Nat.le_of_ble_eq_true rfl) rfl (CI.mono H (fun r6 I7 X8 H => ?_))
  refine r_icmp_eq (n := 907) (tgt := 1389) dL_law_904 (by decide) rfl (fun c => ?_) (fun c => ?_)
  · have H := H.1 c
    exact r_sub [0, 1, 2, 3] rfl H
  · have H := H.2 c
    refine r_iconst (n := 908) (v := 0) dL_law_907 ki_0 rfl ?_
    exact rs_zret dL_law_908 rfl (by decide) H
set_option maxRecDepth 20000 in
theorem rg_L_law_909 {g : OG} {L : Nat} {xs : Nat → Int32} {nm : String} (hscr : scr_xs g L xs) {d : Nat} {I : IT} {X : XT} {K : Int32 → IT → XT → Prop} {l3 : Int32} 
    (H : vp_in (l3 + 1) L ∧
      CI g d iX10_can [rf g 1, .int (xs (l3 + 1).toNatClampNeg)] I X (fun r2 I3 X4 =>
        vp_in (l3 + 1) L ∧
        CI g d iX11_can [rf g 129, .int (xs (l3 + 1).toNatClampNeg)] I3 X4 (fun r6 I7 X8 =>
          (r2 = r6 →
            SR g (d + 1) (iLw nm) 1389 [(0, .ref (og_s g)), (1, rf g 1), (2, rf g 129), (3, .int l3)] I7 X8 (qI K)) ∧
          (¬ r2 = r6 →
            K 0 I7 X8)))) : SR g (d + 1) (iLw nm) 909 [(0, .ref (og_s g)), (1, rf g 1), (2, rf g 129), (3, .int l3)] I X (qI K) := by
  refine r_aload_n (n := 910) 1 dL_law_909 rfl rfl ?_
  refine r_aload_n (n := 911) 0 dL_law_910 rfl rfl ?_
  refine r_iload_n (n := 912) 3 dL_law_911 rfl rfl ?_
  refine r_iconst (n := 913) (v := 1) dL_law_912 ki_1 rfl ?_
  refine r_iadd (n := 914) dL_law_913 rfl ?_
  obtain ⟨hi1, H⟩ := H
  refine r_sld (n := 915) hscr hi1 dL_law_914 rfl ?_
  refine rs_cVi (n := 918) (rest := []) (As := [.int _]) vm_X10_can gw_783 so_1 cq_9 dL_law_915 rfl rfl (Nat.le_of_ble_eq_true rfl) rfl (CI.mono H (fun r2 I3 X4 H => ?_))
  refine r_aload_n (n := 919) 2 dL_law_918 rfl rfl ?_
  refine r_aload_n (n := 920) 0 dL_law_919 rfl rfl ?_
  refine r_iload_n (n := 921) 3 dL_law_920 rfl rfl ?_
  refine r_iconst (n := 922) (v := 1) dL_law_921 ki_1 rfl ?_
  refine r_iadd (n := 923) dL_law_922 rfl ?_
  obtain ⟨hi5, H⟩ := H
  refine r_sld (n := 924) hscr hi5 dL_law_923 rfl ?_
  refine rs_cVi (n := 927) (rest := [.int _]) (As := [.int _]) vm_X11_can gw_1387 so_129 cq_10 dL_law_924 rfl rfl (Nat.le_of_ble_eq_true rfl) rfl (CI.mono H (fun r6 I7 X8 H => ?_))
  refine r_icmp_eq (n := 930) (tgt := 1389) dL_law_927 (by decide) rfl (fun c => ?_) (fun c => ?_)
  · have H := H.1 c
    exact r_sub [0, 1, 2, 3] rfl H
  · have H := H.2 c
    refine r_iconst (n := 931) (v := 0) dL_law_930 ki_0 rfl ?_
    exact rs_zret dL_law_931 rfl (by decide) H
set_option maxRecDepth 20000 in
theorem rg_L_law_932 {g : OG} {L : Nat} {xs : Nat → Int32} {nm : String} (hscr : scr_xs g L xs) {d : Nat} {I : IT} {X : XT} {K : Int32 → IT → XT → Prop} {l3 : Int32} 
    (H : vp_in (l3 + 1) L ∧
      vp_in (l3 + 2) L ∧
      vp_in (l3 + 3) L ∧
      CI g d iX10_plan [rf g 1, .int (xs (l3 + 1).toNatClampNeg), .int (xs (l3 + 2).toNatClampNeg), .int (xs (l3 + 3).toNatClampNeg)] I X (fun r4 I5 X6 =>
        vp_in (l3 + 1) L ∧
        vp_in (l3 + 2) L ∧
        vp_in (l3 + 3) L ∧
        CI g d iX11_plan [rf g 129, .int (xs (l3 + 1).toNatClampNeg), .int (xs (l3 + 2).toNatClampNeg), .int (xs (l3 + 3).toNatClampNeg)] I5 X6 (fun r10 I11 X12 =>
          (r4 = r10 →
            SR g (d + 1) (iLw nm) 1389 [(0, .ref (og_s g)), (1, rf g 1), (2, rf g 129), (3, .int l3)] I11 X12 (qI K)) ∧
          (¬ r4 = r10 →
            K 0 I11 X12)))) : SR g (d + 1) (iLw nm) 932 [(0, .ref (og_s g)), (1, rf g 1), (2, rf g 129), (3, .int l3)] I X (qI K) := by
  refine r_aload_n (n := 933) 1 dL_law_932 rfl rfl ?_
  refine r_aload_n (n := 934) 0 dL_law_933 rfl rfl ?_
  refine r_iload_n (n := 935) 3 dL_law_934 rfl rfl ?_
  refine r_iconst (n := 936) (v := 1) dL_law_935 ki_1 rfl ?_
  refine r_iadd (n := 937) dL_law_936 rfl ?_
  obtain ⟨hi1, H⟩ := H
  refine r_sld (n := 938) hscr hi1 dL_law_937 rfl ?_
  refine r_aload_n (n := 939) 0 dL_law_938 rfl rfl ?_
  refine r_iload_n (n := 940) 3 dL_law_939 rfl rfl ?_
  refine r_iconst (n := 941) (v := 2) dL_law_940 ki_2 rfl ?_
  refine r_iadd (n := 942) dL_law_941 rfl ?_
  obtain ⟨hi2, H⟩ := H
  refine r_sld (n := 943) hscr hi2 dL_law_942 rfl ?_
  refine r_aload_n (n := 944) 0 dL_law_943 rfl rfl ?_
  refine r_iload_n (n := 945) 3 dL_law_944 rfl rfl ?_
  refine r_iconst (n := 946) (v := 3) dL_law_945 ki_3 rfl ?_
  refine r_iadd (n := 947) dL_law_946 rfl ?_
  obtain ⟨hi3, H⟩ := H
  refine r_sld (n := 948) hscr hi3 dL_law_947 rfl ?_
  refine rs_cVi (n := 951) (rest := []) (As := [.int _, .int _, .int _]) vm_X10_plan gw_833 so_1 cq_9 dL_law_948 rfl rfl (Nat.le_of_ble_eq_true rfl) rfl (CI.mono H (fun r4 I5 X6 H => ?_))
  refine r_aload_n (n := 952) 2 dL_law_951 rfl rfl ?_
  refine r_aload_n (n := 953) 0 dL_law_952 rfl rfl ?_
  refine r_iload_n (n := 954) 3 dL_law_953 rfl rfl ?_
  refine r_iconst (n := 955) (v := 1) dL_law_954 ki_1 rfl ?_
  refine r_iadd (n := 956) dL_law_955 rfl ?_
  obtain ⟨hi7, H⟩ := H
  refine r_sld (n := 957) hscr hi7 dL_law_956 rfl ?_
  refine r_aload_n (n := 958) 0 dL_law_957 rfl rfl ?_
  refine r_iload_n (n := 959) 3 dL_law_958 rfl rfl ?_
  refine r_iconst (n := 960) (v := 2) dL_law_959 ki_2 rfl ?_
  refine r_iadd (n := 961) dL_law_960 rfl ?_
  obtain ⟨hi8, H⟩ := H
  refine r_sld (n := 962) hscr hi8 dL_law_961 rfl ?_
  refine r_aload_n (n := 963) 0 dL_law_962 rfl rfl ?_
  refine r_iload_n (n := 964) 3 dL_law_963 rfl rfl ?_
  refine r_iconst (n := 965) (v := 3) dL_law_964 ki_3 rfl ?_
  refine r_iadd (n := 966) dL_law_965 rfl ?_
  obtain ⟨hi9, H⟩ := H
  refine r_sld (n := 967) hscr hi9 dL_law_966 rfl ?_
  refine rs_cVi (n := 970) (rest := [.int _]) (As := [.int _, .int _, .int _]) vm_X11_plan gw_1418 so_129 cq_10 dL_law_967 rfl rfl (Nat.le_of_ble_eq_true rfl) rfl (CI.mono H (fun r10 I11 X12 H => ?_))
  refine r_icmp_eq (n := 973) (tgt := 1389) dL_law_970 (by decide) rfl (fun c => ?_) (fun c => ?_)
  · have H := H.1 c
    exact r_sub [0, 1, 2, 3] rfl H
  · have H := H.2 c
    refine r_iconst (n := 974) (v := 0) dL_law_973 ki_0 rfl ?_
    exact rs_zret dL_law_974 rfl (by decide) H
set_option maxRecDepth 20000 in
theorem rg_L_law_975 {g : OG} {L : Nat} {xs : Nat → Int32} {nm : String} (hscr : scr_xs g L xs) {d : Nat} {I : IT} {X : XT} {K : Int32 → IT → XT → Prop} {l3 : Int32} 
    (H : vp_in (l3 + 1) L ∧
      vp_in (l3 + 2) L ∧
      CI g d iX10_ways [rf g 1, .int (xs (l3 + 1).toNatClampNeg), .int (xs (l3 + 2).toNatClampNeg)] I X (fun r3 I4 X5 =>
        vp_in (l3 + 1) L ∧
        vp_in (l3 + 2) L ∧
        CI g d iX11_ways [rf g 129, .int (xs (l3 + 1).toNatClampNeg), .int (xs (l3 + 2).toNatClampNeg)] I4 X5 (fun r8 I9 X10 =>
          (r3 = r8 →
            SR g (d + 1) (iLw nm) 1389 [(0, .ref (og_s g)), (1, rf g 1), (2, rf g 129), (3, .int l3)] I9 X10 (qI K)) ∧
          (¬ r3 = r8 →
            K 0 I9 X10)))) : SR g (d + 1) (iLw nm) 975 [(0, .ref (og_s g)), (1, rf g 1), (2, rf g 129), (3, .int l3)] I X (qI K) := by
  refine r_aload_n (n := 976) 1 dL_law_975 rfl rfl ?_
  refine r_aload_n (n := 977) 0 dL_law_976 rfl rfl ?_
  refine r_iload_n (n := 978) 3 dL_law_977 rfl rfl ?_
  refine r_iconst (n := 979) (v := 1) dL_law_978 ki_1 rfl ?_
  refine r_iadd (n := 980) dL_law_979 rfl ?_
  obtain ⟨hi1, H⟩ := H
  refine r_sld (n := 981) hscr hi1 dL_law_980 rfl ?_
  refine r_aload_n (n := 982) 0 dL_law_981 rfl rfl ?_
  refine r_iload_n (n := 983) 3 dL_law_982 rfl rfl ?_
  refine r_iconst (n := 984) (v := 2) dL_law_983 ki_2 rfl ?_
  refine r_iadd (n := 985) dL_law_984 rfl ?_
  obtain ⟨hi2, H⟩ := H
  refine r_sld (n := 986) hscr hi2 dL_law_985 rfl ?_
  refine rs_cVi (n := 989) (rest := []) (As := [.int _, .int _]) vm_X10_ways gw_846 so_1 cq_9 dL_law_986 rfl rfl (Nat.le_of_ble_eq_true rfl) rfl (CI.mono H (fun r3 I4 X5 H => ?_))
  refine r_aload_n (n := 990) 2 dL_law_989 rfl rfl ?_
  refine r_aload_n (n := 991) 0 dL_law_990 rfl rfl ?_
  refine r_iload_n (n := 992) 3 dL_law_991 rfl rfl ?_
  refine r_iconst (n := 993) (v := 1) dL_law_992 ki_1 rfl ?_
  refine r_iadd (n := 994) dL_law_993 rfl ?_
  obtain ⟨hi6, H⟩ := H
  refine r_sld (n := 995) hscr hi6 dL_law_994 rfl ?_
  refine r_aload_n (n := 996) 0 dL_law_995 rfl rfl ?_
  refine r_iload_n (n := 997) 3 dL_law_996 rfl rfl ?_
  refine r_iconst (n := 998) (v := 2) dL_law_997 ki_2 rfl ?_
  refine r_iadd (n := 999) dL_law_998 rfl ?_
  obtain ⟨hi7, H⟩ := H
  refine r_sld (n := 1000) hscr hi7 dL_law_999 rfl ?_
  refine rs_cVi (n := 1003) (rest := [.int _]) (As := [.int _, .int _]) vm_X11_ways gw_1430 so_129 cq_10 dL_law_1000 rfl rfl (Nat.le_of_ble_eq_true rfl) rfl (CI.mono H (fun r8 I9 X10 H => ?_))
  refine r_icmp_eq (n := 1006) (tgt := 1389) dL_law_1003 (by decide) rfl (fun c => ?_) (fun c => ?_)
  · have H := H.1 c
    exact r_sub [0, 1, 2, 3] rfl H
  · have H := H.2 c
    refine r_iconst (n := 1007) (v := 0) dL_law_1006 ki_0 rfl ?_
    exact rs_zret dL_law_1007 rfl (by decide) H
set_option maxRecDepth 20000 in
theorem rg_L_law_1008 {g : OG} {L : Nat} {xs : Nat → Int32} {nm : String} (hscr : scr_xs g L xs) {d : Nat} {I : IT} {X : XT} {K : Int32 → IT → XT → Prop} {l3 : Int32} 
    (H : vp_in (l3 + 1) L ∧
      vp_in (l3 + 2) L ∧
      CI g d iX10_most [rf g 1, .int (xs (l3 + 1).toNatClampNeg), .int (xs (l3 + 2).toNatClampNeg)] I X (fun r3 I4 X5 =>
        vp_in (l3 + 1) L ∧
        vp_in (l3 + 2) L ∧
        CI g d iX11_most [rf g 129, .int (xs (l3 + 1).toNatClampNeg), .int (xs (l3 + 2).toNatClampNeg)] I4 X5 (fun r8 I9 X10 =>
          (r3 = r8 →
            SR g (d + 1) (iLw nm) 1389 [(0, .ref (og_s g)), (1, rf g 1), (2, rf g 129), (3, .int l3)] I9 X10 (qI K)) ∧
          (¬ r3 = r8 →
            K 0 I9 X10)))) : SR g (d + 1) (iLw nm) 1008 [(0, .ref (og_s g)), (1, rf g 1), (2, rf g 129), (3, .int l3)] I X (qI K) := by
  refine r_aload_n (n := 1009) 1 dL_law_1008 rfl rfl ?_
  refine r_aload_n (n := 1010) 0 dL_law_1009 rfl rfl ?_
  refine r_iload_n (n := 1011) 3 dL_law_1010 rfl rfl ?_
  refine r_iconst (n := 1012) (v := 1) dL_law_1011 ki_1 rfl ?_
  refine r_iadd (n := 1013) dL_law_1012 rfl ?_
  obtain ⟨hi1, H⟩ := H
  refine r_sld (n := 1014) hscr hi1 dL_law_1013 rfl ?_
  refine r_aload_n (n := 1015) 0 dL_law_1014 rfl rfl ?_
  refine r_iload_n (n := 1016) 3 dL_law_1015 rfl rfl ?_
  refine r_iconst (n := 1017) (v := 2) dL_law_1016 ki_2 rfl ?_
  refine r_iadd (n := 1018) dL_law_1017 rfl ?_
  obtain ⟨hi2, H⟩ := H
  refine r_sld (n := 1019) hscr hi2 dL_law_1018 rfl ?_
  refine rs_cVi (n := 1022) (rest := []) (As := [.int _, .int _]) vm_X10_most gw_857 so_1 cq_9 dL_law_1019 rfl rfl (Nat.le_of_ble_eq_true rfl) rfl (CI.mono H (fun r3 I4 X5 H => ?_))
  refine r_aload_n (n := 1023) 2 dL_law_1022 rfl rfl ?_
  refine r_aload_n (n := 1024) 0 dL_law_1023 rfl rfl ?_
  refine r_iload_n (n := 1025) 3 dL_law_1024 rfl rfl ?_
  refine r_iconst (n := 1026) (v := 1) dL_law_1025 ki_1 rfl ?_
  refine r_iadd (n := 1027) dL_law_1026 rfl ?_
  obtain ⟨hi6, H⟩ := H
  refine r_sld (n := 1028) hscr hi6 dL_law_1027 rfl ?_
  refine r_aload_n (n := 1029) 0 dL_law_1028 rfl rfl ?_
  refine r_iload_n (n := 1030) 3 dL_law_1029 rfl rfl ?_
  refine r_iconst (n := 1031) (v := 2) dL_law_1030 ki_2 rfl ?_
  refine r_iadd (n := 1032) dL_law_1031 rfl ?_
  obtain ⟨hi7, H⟩ := H
  refine r_sld (n := 1033) hscr hi7 dL_law_1032 rfl ?_
  refine rs_cVi (n := 1036) (rest := [.int _]) (As := [.int _, .int _]) vm_X11_most gw_1438 so_129 cq_10 dL_law_1033 rfl rfl (Nat.le_of_ble_eq_true rfl) rfl (CI.mono H (fun r8 I9 X10 H => ?_))
  refine r_icmp_eq (n := 1039) (tgt := 1389) dL_law_1036 (by decide) rfl (fun c => ?_) (fun c => ?_)
  · have H := H.1 c
    exact r_sub [0, 1, 2, 3] rfl H
  · have H := H.2 c
    refine r_iconst (n := 1040) (v := 0) dL_law_1039 ki_0 rfl ?_
    exact rs_zret dL_law_1040 rfl (by decide) H
set_option maxRecDepth 20000 in
theorem rg_L_law_1041 {g : OG} {L : Nat} {xs : Nat → Int32} {nm : String} (hscr : scr_xs g L xs) {d : Nat} {I : IT} {X : XT} {K : Int32 → IT → XT → Prop} {l3 : Int32} 
    (H : vp_in (l3 + 1) L ∧
      vp_in (l3 + 2) L ∧
      CI g d iX10_serve [rf g 1, .int (xs (l3 + 1).toNatClampNeg), .int (xs (l3 + 2).toNatClampNeg)] I X (fun r3 I4 X5 =>
        vp_in (l3 + 1) L ∧
        vp_in (l3 + 2) L ∧
        CI g d iX11_serve [rf g 129, .int (xs (l3 + 1).toNatClampNeg), .int (xs (l3 + 2).toNatClampNeg)] I4 X5 (fun r8 I9 X10 =>
          (r3 = r8 →
            SR g (d + 1) (iLw nm) 1389 [(0, .ref (og_s g)), (1, rf g 1), (2, rf g 129), (3, .int l3)] I9 X10 (qI K)) ∧
          (¬ r3 = r8 →
            K 0 I9 X10)))) : SR g (d + 1) (iLw nm) 1041 [(0, .ref (og_s g)), (1, rf g 1), (2, rf g 129), (3, .int l3)] I X (qI K) := by
  refine r_aload_n (n := 1042) 1 dL_law_1041 rfl rfl ?_
  refine r_aload_n (n := 1043) 0 dL_law_1042 rfl rfl ?_
  refine r_iload_n (n := 1044) 3 dL_law_1043 rfl rfl ?_
  refine r_iconst (n := 1045) (v := 1) dL_law_1044 ki_1 rfl ?_
  refine r_iadd (n := 1046) dL_law_1045 rfl ?_
  obtain ⟨hi1, H⟩ := H
  refine r_sld (n := 1047) hscr hi1 dL_law_1046 rfl ?_
  refine r_aload_n (n := 1048) 0 dL_law_1047 rfl rfl ?_
  refine r_iload_n (n := 1049) 3 dL_law_1048 rfl rfl ?_
  refine r_iconst (n := 1050) (v := 2) dL_law_1049 ki_2 rfl ?_
  refine r_iadd (n := 1051) dL_law_1050 rfl ?_
  obtain ⟨hi2, H⟩ := H
  refine r_sld (n := 1052) hscr hi2 dL_law_1051 rfl ?_
  refine rs_cVi (n := 1055) (rest := []) (As := [.int _, .int _]) vm_X10_serve gw_861 so_1 cq_9 dL_law_1052 rfl rfl (Nat.le_of_ble_eq_true rfl) rfl (CI.mono H (fun r3 I4 X5 H => ?_))
  refine r_aload_n (n := 1056) 2 dL_law_1055 rfl rfl ?_
  refine r_aload_n (n := 1057) 0 dL_law_1056 rfl rfl ?_
  refine r_iload_n (n := 1058) 3 dL_law_1057 rfl rfl ?_
  refine r_iconst (n := 1059) (v := 1) dL_law_1058 ki_1 rfl ?_
  refine r_iadd (n := 1060) dL_law_1059 rfl ?_
  obtain ⟨hi6, H⟩ := H
  refine r_sld (n := 1061) hscr hi6 dL_law_1060 rfl ?_
  refine r_aload_n (n := 1062) 0 dL_law_1061 rfl rfl ?_
  refine r_iload_n (n := 1063) 3 dL_law_1062 rfl rfl ?_
  refine r_iconst (n := 1064) (v := 2) dL_law_1063 ki_2 rfl ?_
  refine r_iadd (n := 1065) dL_law_1064 rfl ?_
  obtain ⟨hi7, H⟩ := H
  refine r_sld (n := 1066) hscr hi7 dL_law_1065 rfl ?_
  refine rs_cVi (n := 1069) (rest := [.int _]) (As := [.int _, .int _]) vm_X11_serve gw_1442 so_129 cq_10 dL_law_1066 rfl rfl (Nat.le_of_ble_eq_true rfl) rfl (CI.mono H (fun r8 I9 X10 H => ?_))
  refine r_icmp_eq (n := 1072) (tgt := 1389) dL_law_1069 (by decide) rfl (fun c => ?_) (fun c => ?_)
  · have H := H.1 c
    exact r_sub [0, 1, 2, 3] rfl H
  · have H := H.2 c
    refine r_iconst (n := 1073) (v := 0) dL_law_1072 ki_0 rfl ?_
    exact rs_zret dL_law_1073 rfl (by decide) H
set_option maxRecDepth 20000 in
theorem rg_L_law_1074 {g : OG} {L : Nat} {xs : Nat → Int32} {nm : String} (hscr : scr_xs g L xs) {d : Nat} {I : IT} {X : XT} {K : Int32 → IT → XT → Prop} {l3 : Int32} 
    (H : vp_in (l3 + 1) L ∧
      CI g d iX10_run [rf g 1, .int (xs (l3 + 1).toNatClampNeg)] I X (fun r2 I3 X4 =>
        vp_in (l3 + 1) L ∧
        CI g d iX11_run [rf g 129, .int (xs (l3 + 1).toNatClampNeg)] I3 X4 (fun r6 I7 X8 =>
          (r2 = r6 →
            SR g (d + 1) (iLw nm) 1389 [(0, .ref (og_s g)), (1, rf g 1), (2, rf g 129), (3, .int l3)] I7 X8 (qI K)) ∧
          (¬ r2 = r6 →
            K 0 I7 X8)))) : SR g (d + 1) (iLw nm) 1074 [(0, .ref (og_s g)), (1, rf g 1), (2, rf g 129), (3, .int l3)] I X (qI K) := by
  refine r_aload_n (n := 1075) 1 dL_law_1074 rfl rfl ?_
  refine r_aload_n (n := 1076) 0 dL_law_1075 rfl rfl ?_
  refine r_iload_n (n := 1077) 3 dL_law_1076 rfl rfl ?_
  refine r_iconst (n := 1078) (v := 1) dL_law_1077 ki_1 rfl ?_
  refine r_iadd (n := 1079) dL_law_1078 rfl ?_
  obtain ⟨hi1, H⟩ := H
  refine r_sld (n := 1080) hscr hi1 dL_law_1079 rfl ?_
  refine rs_cVi (n := 1083) (rest := []) (As := [.int _]) vm_X10_run gw_865 so_1 cq_9 dL_law_1080 rfl rfl (Nat.le_of_ble_eq_true rfl) rfl (CI.mono H (fun r2 I3 X4 H => ?_))
  refine r_aload_n (n := 1084) 2 dL_law_1083 rfl rfl ?_
  refine r_aload_n (n := 1085) 0 dL_law_1084 rfl rfl ?_
  refine r_iload_n (n := 1086) 3 dL_law_1085 rfl rfl ?_
  refine r_iconst (n := 1087) (v := 1) dL_law_1086 ki_1 rfl ?_
  refine r_iadd (n := 1088) dL_law_1087 rfl ?_
  obtain ⟨hi5, H⟩ := H
  refine r_sld (n := 1089) hscr hi5 dL_law_1088 rfl ?_
  refine rs_cVi (n := 1092) (rest := [.int _]) (As := [.int _]) vm_X11_run gw_1446 so_129 cq_10 dL_law_1089 rfl rfl (Nat.le_of_ble_eq_true rfl) rfl (CI.mono H (fun r6 I7 X8 H => ?_))
  refine r_icmp_eq (n := 1095) (tgt := 1389) dL_law_1092 (by decide) rfl (fun c => ?_) (fun c => ?_)
  · have H := H.1 c
    exact r_sub [0, 1, 2, 3] rfl H
  · have H := H.2 c
    refine r_iconst (n := 1096) (v := 0) dL_law_1095 ki_0 rfl ?_
    exact rs_zret dL_law_1096 rfl (by decide) H
set_option maxRecDepth 20000 in
theorem rg_L_law_1097 {g : OG} {L : Nat} {xs : Nat → Int32} {nm : String} (hscr : scr_xs g L xs) {d : Nat} {I : IT} {X : XT} {K : Int32 → IT → XT → Prop} {l3 : Int32} 
    (H : CI g d iX10_where [rf g 1] I X (fun r1 I2 X3 =>
        CI g d iX11_where [rf g 129] I2 X3 (fun r4 I5 X6 =>
          (r1 = r4 →
            SR g (d + 1) (iLw nm) 1389 [(0, .ref (og_s g)), (1, rf g 1), (2, rf g 129), (3, .int l3)] I5 X6 (qI K)) ∧
          (¬ r1 = r4 →
            K 0 I5 X6)))) : SR g (d + 1) (iLw nm) 1097 [(0, .ref (og_s g)), (1, rf g 1), (2, rf g 129), (3, .int l3)] I X (qI K) := by
  refine r_aload_n (n := 1098) 1 dL_law_1097 rfl rfl ?_
  refine rs_cVi (n := 1101) (rest := []) (As := []) vm_X10_where gw_881 so_1 cq_9 dL_law_1098 rfl rfl (Nat.le_of_ble_eq_true rfl) rfl (CI.mono H (fun r1 I2 X3 H => ?_))
  refine r_aload_n (n := 1102) 2 dL_law_1101 rfl rfl ?_
  refine rs_cVi (n := 1105) (rest := [.int _]) (As := []) vm_X11_where gw_1454 so_129 cq_10 dL_law_1102 rfl rfl (Nat.le_of_ble_eq_true rfl) rfl (CI.mono H (fun r4 I5 X6 H => ?_))
  refine r_icmp_eq (n := 1108) (tgt := 1389) dL_law_1105 (by decide) rfl (fun c => ?_) (fun c => ?_)
  · have H := H.1 c
    exact r_sub [0, 1, 2, 3] rfl H
  · have H := H.2 c
    refine r_iconst (n := 1109) (v := 0) dL_law_1108 ki_0 rfl ?_
    exact rs_zret dL_law_1109 rfl (by decide) H
set_option maxRecDepth 20000 in
theorem rg_L_law_1110 {g : OG} {L : Nat} {xs : Nat → Int32} {nm : String} (hscr : scr_xs g L xs) {d : Nat} {I : IT} {X : XT} {K : Int32 → IT → XT → Prop} {l3 : Int32} 
    (H : vp_in (l3 + 1) L ∧
      CI g d iX10_smoke [rf g 1, .int (xs (l3 + 1).toNatClampNeg)] I X (fun r2 I3 X4 =>
        vp_in (l3 + 1) L ∧
        CI g d iX11_smoke [rf g 129, .int (xs (l3 + 1).toNatClampNeg)] I3 X4 (fun r6 I7 X8 =>
          (r2 = r6 →
            SR g (d + 1) (iLw nm) 1389 [(0, .ref (og_s g)), (1, rf g 1), (2, rf g 129), (3, .int l3)] I7 X8 (qI K)) ∧
          (¬ r2 = r6 →
            K 0 I7 X8)))) : SR g (d + 1) (iLw nm) 1110 [(0, .ref (og_s g)), (1, rf g 1), (2, rf g 129), (3, .int l3)] I X (qI K) := by
  refine r_aload_n (n := 1111) 1 dL_law_1110 rfl rfl ?_
  refine r_aload_n (n := 1112) 0 dL_law_1111 rfl rfl ?_
  refine r_iload_n (n := 1113) 3 dL_law_1112 rfl rfl ?_
  refine r_iconst (n := 1114) (v := 1) dL_law_1113 ki_1 rfl ?_
  refine r_iadd (n := 1115) dL_law_1114 rfl ?_
  obtain ⟨hi1, H⟩ := H
  refine r_sld (n := 1116) hscr hi1 dL_law_1115 rfl ?_
  refine rs_cVi (n := 1119) (rest := []) (As := [.int _]) vm_X10_smoke gw_886 so_1 cq_9 dL_law_1116 rfl rfl (Nat.le_of_ble_eq_true rfl) rfl (CI.mono H (fun r2 I3 X4 H => ?_))
  refine r_aload_n (n := 1120) 2 dL_law_1119 rfl rfl ?_
  refine r_aload_n (n := 1121) 0 dL_law_1120 rfl rfl ?_
  refine r_iload_n (n := 1122) 3 dL_law_1121 rfl rfl ?_
  refine r_iconst (n := 1123) (v := 1) dL_law_1122 ki_1 rfl ?_
  refine r_iadd (n := 1124) dL_law_1123 rfl ?_
  obtain ⟨hi5, H⟩ := H
  refine r_sld (n := 1125) hscr hi5 dL_law_1124 rfl ?_
  refine rs_cVi (n := 1128) (rest := [.int _]) (As := [.int _]) vm_X11_smoke gw_1462 so_129 cq_10 dL_law_1125 rfl rfl (Nat.le_of_ble_eq_true rfl) rfl (CI.mono H (fun r6 I7 X8 H => ?_))
  refine r_icmp_eq (n := 1131) (tgt := 1389) dL_law_1128 (by decide) rfl (fun c => ?_) (fun c => ?_)
  · have H := H.1 c
    exact r_sub [0, 1, 2, 3] rfl H
  · have H := H.2 c
    refine r_iconst (n := 1132) (v := 0) dL_law_1131 ki_0 rfl ?_
    exact rs_zret dL_law_1132 rfl (by decide) H
set_option maxRecDepth 20000 in
theorem rg_L_law_1133 {g : OG} {L : Nat} {xs : Nat → Int32} {nm : String} (hscr : scr_xs g L xs) {d : Nat} {I : IT} {X : XT} {K : Int32 → IT → XT → Prop} {l3 : Int32} 
    (H : vp_in (l3 + 1) L ∧
      vp_in (l3 + 2) L ∧
      CI g d iX10_hides [rf g 1, .int (xs (l3 + 1).toNatClampNeg), .int (xs (l3 + 2).toNatClampNeg)] I X (fun r3 I4 X5 =>
        vp_in (l3 + 1) L ∧
        vp_in (l3 + 2) L ∧
        CI g d iX11_hides [rf g 129, .int (xs (l3 + 1).toNatClampNeg), .int (xs (l3 + 2).toNatClampNeg)] I4 X5 (fun r8 I9 X10 =>
          (r3 = r8 →
            SR g (d + 1) (iLw nm) 1389 [(0, .ref (og_s g)), (1, rf g 1), (2, rf g 129), (3, .int l3)] I9 X10 (qI K)) ∧
          (¬ r3 = r8 →
            K 0 I9 X10)))) : SR g (d + 1) (iLw nm) 1133 [(0, .ref (og_s g)), (1, rf g 1), (2, rf g 129), (3, .int l3)] I X (qI K) := by
  refine r_aload_n (n := 1134) 1 dL_law_1133 rfl rfl ?_
  refine r_aload_n (n := 1135) 0 dL_law_1134 rfl rfl ?_
  refine r_iload_n (n := 1136) 3 dL_law_1135 rfl rfl ?_
  refine r_iconst (n := 1137) (v := 1) dL_law_1136 ki_1 rfl ?_
  refine r_iadd (n := 1138) dL_law_1137 rfl ?_
  obtain ⟨hi1, H⟩ := H
  refine r_sld (n := 1139) hscr hi1 dL_law_1138 rfl ?_
  refine r_aload_n (n := 1140) 0 dL_law_1139 rfl rfl ?_
  refine r_iload_n (n := 1141) 3 dL_law_1140 rfl rfl ?_
  refine r_iconst (n := 1142) (v := 2) dL_law_1141 ki_2 rfl ?_
  refine r_iadd (n := 1143) dL_law_1142 rfl ?_
  obtain ⟨hi2, H⟩ := H
  refine r_sld (n := 1144) hscr hi2 dL_law_1143 rfl ?_
  refine rs_cVi (n := 1147) (rest := []) (As := [.int _, .int _]) vm_X10_hides gw_913 so_1 cq_9 dL_law_1144 rfl rfl (Nat.le_of_ble_eq_true rfl) rfl (CI.mono H (fun r3 I4 X5 H => ?_))
  refine r_aload_n (n := 1148) 2 dL_law_1147 rfl rfl ?_
  refine r_aload_n (n := 1149) 0 dL_law_1148 rfl rfl ?_
  refine r_iload_n (n := 1150) 3 dL_law_1149 rfl rfl ?_
  refine r_iconst (n := 1151) (v := 1) dL_law_1150 ki_1 rfl ?_
  refine r_iadd (n := 1152) dL_law_1151 rfl ?_
  obtain ⟨hi6, H⟩ := H
  refine r_sld (n := 1153) hscr hi6 dL_law_1152 rfl ?_
  refine r_aload_n (n := 1154) 0 dL_law_1153 rfl rfl ?_
  refine r_iload_n (n := 1155) 3 dL_law_1154 rfl rfl ?_
  refine r_iconst (n := 1156) (v := 2) dL_law_1155 ki_2 rfl ?_
  refine r_iadd (n := 1157) dL_law_1156 rfl ?_
  obtain ⟨hi7, H⟩ := H
  refine r_sld (n := 1158) hscr hi7 dL_law_1157 rfl ?_
  refine rs_cVi (n := 1161) (rest := [.int _]) (As := [.int _, .int _]) vm_X11_hides gw_1474 so_129 cq_10 dL_law_1158 rfl rfl (Nat.le_of_ble_eq_true rfl) rfl (CI.mono H (fun r8 I9 X10 H => ?_))
  refine r_icmp_eq (n := 1164) (tgt := 1389) dL_law_1161 (by decide) rfl (fun c => ?_) (fun c => ?_)
  · have H := H.1 c
    exact r_sub [0, 1, 2, 3] rfl H
  · have H := H.2 c
    refine r_iconst (n := 1165) (v := 0) dL_law_1164 ki_0 rfl ?_
    exact rs_zret dL_law_1165 rfl (by decide) H
set_option maxRecDepth 20000 in
theorem rg_L_law_1166 {g : OG} {L : Nat} {xs : Nat → Int32} {nm : String} (hscr : scr_xs g L xs) {d : Nat} {I : IT} {X : XT} {K : Int32 → IT → XT → Prop} {l3 : Int32} 
    (H : vp_in (l3 + 1) L ∧
      vp_in (l3 + 2) L ∧
      CI g d iX10_spring [rf g 1, .int (xs (l3 + 1).toNatClampNeg), .int (xs (l3 + 2).toNatClampNeg)] I X (fun r3 I4 X5 =>
        vp_in (l3 + 1) L ∧
        vp_in (l3 + 2) L ∧
        CI g d iX11_spring [rf g 129, .int (xs (l3 + 1).toNatClampNeg), .int (xs (l3 + 2).toNatClampNeg)] I4 X5 (fun r8 I9 X10 =>
          (r3 = r8 →
            SR g (d + 1) (iLw nm) 1389 [(0, .ref (og_s g)), (1, rf g 1), (2, rf g 129), (3, .int l3)] I9 X10 (qI K)) ∧
          (¬ r3 = r8 →
            K 0 I9 X10)))) : SR g (d + 1) (iLw nm) 1166 [(0, .ref (og_s g)), (1, rf g 1), (2, rf g 129), (3, .int l3)] I X (qI K) := by
  refine r_aload_n (n := 1167) 1 dL_law_1166 rfl rfl ?_
  refine r_aload_n (n := 1168) 0 dL_law_1167 rfl rfl ?_
  refine r_iload_n (n := 1169) 3 dL_law_1168 rfl rfl ?_
  refine r_iconst (n := 1170) (v := 1) dL_law_1169 ki_1 rfl ?_
  refine r_iadd (n := 1171) dL_law_1170 rfl ?_
  obtain ⟨hi1, H⟩ := H
  refine r_sld (n := 1172) hscr hi1 dL_law_1171 rfl ?_
  refine r_aload_n (n := 1173) 0 dL_law_1172 rfl rfl ?_
  refine r_iload_n (n := 1174) 3 dL_law_1173 rfl rfl ?_
  refine r_iconst (n := 1175) (v := 2) dL_law_1174 ki_2 rfl ?_
  refine r_iadd (n := 1176) dL_law_1175 rfl ?_
  obtain ⟨hi2, H⟩ := H
  refine r_sld (n := 1177) hscr hi2 dL_law_1176 rfl ?_
  refine rs_cVi (n := 1180) (rest := []) (As := [.int _, .int _]) vm_X10_spring gw_921 so_1 cq_9 dL_law_1177 rfl rfl (Nat.le_of_ble_eq_true rfl) rfl (CI.mono H (fun r3 I4 X5 H => ?_))
  refine r_aload_n (n := 1181) 2 dL_law_1180 rfl rfl ?_
  refine r_aload_n (n := 1182) 0 dL_law_1181 rfl rfl ?_
  refine r_iload_n (n := 1183) 3 dL_law_1182 rfl rfl ?_
  refine r_iconst (n := 1184) (v := 1) dL_law_1183 ki_1 rfl ?_
  refine r_iadd (n := 1185) dL_law_1184 rfl ?_
  obtain ⟨hi6, H⟩ := H
  refine r_sld (n := 1186) hscr hi6 dL_law_1185 rfl ?_
  refine r_aload_n (n := 1187) 0 dL_law_1186 rfl rfl ?_
  refine r_iload_n (n := 1188) 3 dL_law_1187 rfl rfl ?_
  refine r_iconst (n := 1189) (v := 2) dL_law_1188 ki_2 rfl ?_
  refine r_iadd (n := 1190) dL_law_1189 rfl ?_
  obtain ⟨hi7, H⟩ := H
  refine r_sld (n := 1191) hscr hi7 dL_law_1190 rfl ?_
  refine rs_cVi (n := 1194) (rest := [.int _]) (As := [.int _, .int _]) vm_X11_spring gw_1478 so_129 cq_10 dL_law_1191 rfl rfl (Nat.le_of_ble_eq_true rfl) rfl (CI.mono H (fun r8 I9 X10 H => ?_))
  refine r_icmp_eq (n := 1197) (tgt := 1389) dL_law_1194 (by decide) rfl (fun c => ?_) (fun c => ?_)
  · have H := H.1 c
    exact r_sub [0, 1, 2, 3] rfl H
  · have H := H.2 c
    refine r_iconst (n := 1198) (v := 0) dL_law_1197 ki_0 rfl ?_
    exact rs_zret dL_law_1198 rfl (by decide) H
set_option maxRecDepth 20000 in
theorem rg_L_law_1199 {g : OG} {L : Nat} {xs : Nat → Int32} {nm : String} (hscr : scr_xs g L xs) {d : Nat} {I : IT} {X : XT} {K : Int32 → IT → XT → Prop} {l3 : Int32} 
    (H : vp_in (l3 + 1) L ∧
      vp_in (l3 + 2) L ∧
      vp_in (l3 + 3) L ∧
      CI g d iX10_odds [rf g 1, .int (xs (l3 + 1).toNatClampNeg), .int (xs (l3 + 2).toNatClampNeg), .int (xs (l3 + 3).toNatClampNeg)] I X (fun r4 I5 X6 =>
        vp_in (l3 + 1) L ∧
        vp_in (l3 + 2) L ∧
        vp_in (l3 + 3) L ∧
        CI g d iX11_odds [rf g 129, .int (xs (l3 + 1).toNatClampNeg), .int (xs (l3 + 2).toNatClampNeg), .int (xs (l3 + 3).toNatClampNeg)] I5 X6 (fun r10 I11 X12 =>
          (r4 = r10 →
            SR g (d + 1) (iLw nm) 1389 [(0, .ref (og_s g)), (1, rf g 1), (2, rf g 129), (3, .int l3)] I11 X12 (qI K)) ∧
          (¬ r4 = r10 →
            K 0 I11 X12)))) : SR g (d + 1) (iLw nm) 1199 [(0, .ref (og_s g)), (1, rf g 1), (2, rf g 129), (3, .int l3)] I X (qI K) := by
  refine r_aload_n (n := 1200) 1 dL_law_1199 rfl rfl ?_
  refine r_aload_n (n := 1201) 0 dL_law_1200 rfl rfl ?_
  refine r_iload_n (n := 1202) 3 dL_law_1201 rfl rfl ?_
  refine r_iconst (n := 1203) (v := 1) dL_law_1202 ki_1 rfl ?_
  refine r_iadd (n := 1204) dL_law_1203 rfl ?_
  obtain ⟨hi1, H⟩ := H
  refine r_sld (n := 1205) hscr hi1 dL_law_1204 rfl ?_
  refine r_aload_n (n := 1206) 0 dL_law_1205 rfl rfl ?_
  refine r_iload_n (n := 1207) 3 dL_law_1206 rfl rfl ?_
  refine r_iconst (n := 1208) (v := 2) dL_law_1207 ki_2 rfl ?_
  refine r_iadd (n := 1209) dL_law_1208 rfl ?_
  obtain ⟨hi2, H⟩ := H
  refine r_sld (n := 1210) hscr hi2 dL_law_1209 rfl ?_
  refine r_aload_n (n := 1211) 0 dL_law_1210 rfl rfl ?_
  refine r_iload_n (n := 1212) 3 dL_law_1211 rfl rfl ?_
  refine r_iconst (n := 1213) (v := 3) dL_law_1212 ki_3 rfl ?_
  refine r_iadd (n := 1214) dL_law_1213 rfl ?_
  obtain ⟨hi3, H⟩ := H
  refine r_sld (n := 1215) hscr hi3 dL_law_1214 rfl ?_
  refine rs_cVi (n := 1218) (rest := []) (As := [.int _, .int _, .int _]) vm_X10_odds gw_925 so_1 cq_9 dL_law_1215 rfl rfl (Nat.le_of_ble_eq_true rfl) rfl (CI.mono H (fun r4 I5 X6 H => ?_))
  refine r_aload_n (n := 1219) 2 dL_law_1218 rfl rfl ?_
  refine r_aload_n (n := 1220) 0 dL_law_1219 rfl rfl ?_
  refine r_iload_n (n := 1221) 3 dL_law_1220 rfl rfl ?_
  refine r_iconst (n := 1222) (v := 1) dL_law_1221 ki_1 rfl ?_
  refine r_iadd (n := 1223) dL_law_1222 rfl ?_
  obtain ⟨hi7, H⟩ := H
  refine r_sld (n := 1224) hscr hi7 dL_law_1223 rfl ?_
  refine r_aload_n (n := 1225) 0 dL_law_1224 rfl rfl ?_
  refine r_iload_n (n := 1226) 3 dL_law_1225 rfl rfl ?_
  refine r_iconst (n := 1227) (v := 2) dL_law_1226 ki_2 rfl ?_
  refine r_iadd (n := 1228) dL_law_1227 rfl ?_
  obtain ⟨hi8, H⟩ := H
  refine r_sld (n := 1229) hscr hi8 dL_law_1228 rfl ?_
  refine r_aload_n (n := 1230) 0 dL_law_1229 rfl rfl ?_
  refine r_iload_n (n := 1231) 3 dL_law_1230 rfl rfl ?_
  refine r_iconst (n := 1232) (v := 3) dL_law_1231 ki_3 rfl ?_
  refine r_iadd (n := 1233) dL_law_1232 rfl ?_
  obtain ⟨hi9, H⟩ := H
  refine r_sld (n := 1234) hscr hi9 dL_law_1233 rfl ?_
  refine rs_cVi (n := 1237) (rest := [.int _]) (As := [.int _, .int _, .int _]) vm_X11_odds gw_1482 so_129 cq_10 dL_law_1234 rfl rfl (Nat.le_of_ble_eq_true rfl) rfl (CI.mono H (fun r10 I11 X12 H => ?_))
  refine r_icmp_eq (n := 1240) (tgt := 1389) dL_law_1237 (by decide) rfl (fun c => ?_) (fun c => ?_)
  · have H := H.1 c
    exact r_sub [0, 1, 2, 3] rfl H
  · have H := H.2 c
    refine r_iconst (n := 1241) (v := 0) dL_law_1240 ki_0 rfl ?_
    exact rs_zret dL_law_1241 rfl (by decide) H
set_option maxRecDepth 20000 in
theorem rg_L_law_1242 {g : OG} {L : Nat} {xs : Nat → Int32} {nm : String} (hscr : scr_xs g L xs) {d : Nat} {I : IT} {X : XT} {K : Int32 → IT → XT → Prop} {l3 : Int32} 
    (H : vp_in (l3 + 1) L ∧
      vp_in (l3 + 2) L ∧
      CI g d iX10_lots [rf g 1, .int (xs (l3 + 1).toNatClampNeg), .int (xs (l3 + 2).toNatClampNeg)] I X (fun r3 I4 X5 =>
        vp_in (l3 + 1) L ∧
        vp_in (l3 + 2) L ∧
        CI g d iX11_lots [rf g 129, .int (xs (l3 + 1).toNatClampNeg), .int (xs (l3 + 2).toNatClampNeg)] I4 X5 (fun r8 I9 X10 =>
          (r3 = r8 →
            SR g (d + 1) (iLw nm) 1389 [(0, .ref (og_s g)), (1, rf g 1), (2, rf g 129), (3, .int l3)] I9 X10 (qI K)) ∧
          (¬ r3 = r8 →
            K 0 I9 X10)))) : SR g (d + 1) (iLw nm) 1242 [(0, .ref (og_s g)), (1, rf g 1), (2, rf g 129), (3, .int l3)] I X (qI K) := by
  refine r_aload_n (n := 1243) 1 dL_law_1242 rfl rfl ?_
  refine r_aload_n (n := 1244) 0 dL_law_1243 rfl rfl ?_
  refine r_iload_n (n := 1245) 3 dL_law_1244 rfl rfl ?_
  refine r_iconst (n := 1246) (v := 1) dL_law_1245 ki_1 rfl ?_
  refine r_iadd (n := 1247) dL_law_1246 rfl ?_
  obtain ⟨hi1, H⟩ := H
  refine r_sld (n := 1248) hscr hi1 dL_law_1247 rfl ?_
  refine r_aload_n (n := 1249) 0 dL_law_1248 rfl rfl ?_
  refine r_iload_n (n := 1250) 3 dL_law_1249 rfl rfl ?_
  refine r_iconst (n := 1251) (v := 2) dL_law_1250 ki_2 rfl ?_
  refine r_iadd (n := 1252) dL_law_1251 rfl ?_
  obtain ⟨hi2, H⟩ := H
  refine r_sld (n := 1253) hscr hi2 dL_law_1252 rfl ?_
  refine rs_cVi (n := 1256) (rest := []) (As := [.int _, .int _]) vm_X10_lots gw_948 so_1 cq_9 dL_law_1253 rfl rfl (Nat.le_of_ble_eq_true rfl) rfl (CI.mono H (fun r3 I4 X5 H => ?_))
  refine r_aload_n (n := 1257) 2 dL_law_1256 rfl rfl ?_
  refine r_aload_n (n := 1258) 0 dL_law_1257 rfl rfl ?_
  refine r_iload_n (n := 1259) 3 dL_law_1258 rfl rfl ?_
  refine r_iconst (n := 1260) (v := 1) dL_law_1259 ki_1 rfl ?_
  refine r_iadd (n := 1261) dL_law_1260 rfl ?_
  obtain ⟨hi6, H⟩ := H
  refine r_sld (n := 1262) hscr hi6 dL_law_1261 rfl ?_
  refine r_aload_n (n := 1263) 0 dL_law_1262 rfl rfl ?_
  refine r_iload_n (n := 1264) 3 dL_law_1263 rfl rfl ?_
  refine r_iconst (n := 1265) (v := 2) dL_law_1264 ki_2 rfl ?_
  refine r_iadd (n := 1266) dL_law_1265 rfl ?_
  obtain ⟨hi7, H⟩ := H
  refine r_sld (n := 1267) hscr hi7 dL_law_1266 rfl ?_
  refine rs_cVi (n := 1270) (rest := [.int _]) (As := [.int _, .int _]) vm_X11_lots gw_1491 so_129 cq_10 dL_law_1267 rfl rfl (Nat.le_of_ble_eq_true rfl) rfl (CI.mono H (fun r8 I9 X10 H => ?_))
  refine r_icmp_eq (n := 1273) (tgt := 1389) dL_law_1270 (by decide) rfl (fun c => ?_) (fun c => ?_)
  · have H := H.1 c
    exact r_sub [0, 1, 2, 3] rfl H
  · have H := H.2 c
    refine r_iconst (n := 1274) (v := 0) dL_law_1273 ki_0 rfl ?_
    exact rs_zret dL_law_1274 rfl (by decide) H
set_option maxRecDepth 20000 in
theorem rg_L_law_1275 {g : OG} {L : Nat} {xs : Nat → Int32} {nm : String} (hscr : scr_xs g L xs) {d : Nat} {I : IT} {X : XT} {K : Int32 → IT → XT → Prop} {l3 : Int32} 
    (H : CI g d iX10_asked [rf g 1] I X (fun r1 I2 X3 =>
        CI g d iX11_asked [rf g 129] I2 X3 (fun r4 I5 X6 =>
          (r1 = r4 →
            SR g (d + 1) (iLw nm) 1389 [(0, .ref (og_s g)), (1, rf g 1), (2, rf g 129), (3, .int l3)] I5 X6 (qI K)) ∧
          (¬ r1 = r4 →
            K 0 I5 X6)))) : SR g (d + 1) (iLw nm) 1275 [(0, .ref (og_s g)), (1, rf g 1), (2, rf g 129), (3, .int l3)] I X (qI K) := by
  refine r_aload_n (n := 1276) 1 dL_law_1275 rfl rfl ?_
  refine rs_cVi (n := 1279) (rest := []) (As := []) vm_X10_asked gw_959 so_1 cq_9 dL_law_1276 rfl rfl (Nat.le_of_ble_eq_true rfl) rfl (CI.mono H (fun r1 I2 X3 H => ?_))
  refine r_aload_n (n := 1280) 2 dL_law_1279 rfl rfl ?_
  refine rs_cVi (n := 1283) (rest := [.int _]) (As := []) vm_X11_asked gw_1153 so_129 cq_10 dL_law_1280 rfl rfl (Nat.le_of_ble_eq_true rfl) rfl (CI.mono H (fun r4 I5 X6 H => ?_))
  refine r_icmp_eq (n := 1286) (tgt := 1389) dL_law_1283 (by decide) rfl (fun c => ?_) (fun c => ?_)
  · have H := H.1 c
    exact r_sub [0, 1, 2, 3] rfl H
  · have H := H.2 c
    refine r_iconst (n := 1287) (v := 0) dL_law_1286 ki_0 rfl ?_
    exact rs_zret dL_law_1287 rfl (by decide) H
set_option maxRecDepth 20000 in
theorem rg_L_law_1288 {g : OG} {L : Nat} {xs : Nat → Int32} {nm : String} (hscr : scr_xs g L xs) {d : Nat} {I : IT} {X : XT} {K : Int32 → IT → XT → Prop} {l3 : Int32} 
    (H : CL g d iX10_upper [rf g 1] I X (fun r1 I2 X3 =>
        CL g d iX11_upper [rf g 129] I2 X3 (fun r4 I5 X6 =>
          ((lg_cmp r1 r4) = 0 →
            SR g (d + 1) (iLw nm) 1389 [(0, .ref (og_s g)), (1, rf g 1), (2, rf g 129), (3, .int l3)] I5 X6 (qI K)) ∧
          (¬ (lg_cmp r1 r4) = 0 →
            K 0 I5 X6)))) : SR g (d + 1) (iLw nm) 1288 [(0, .ref (og_s g)), (1, rf g 1), (2, rf g 129), (3, .int l3)] I X (qI K) := by
  refine r_aload_n (n := 1289) 1 dL_law_1288 rfl rfl ?_
  refine rs_cVl (n := 1292) (rest := []) (As := []) vm_X10_upper gw_963 so_1 cq_9 dL_law_1289 rfl rfl (Nat.le_of_ble_eq_true rfl) rfl (CL.mono H (fun r1 I2 X3 H => ?_))
  refine r_aload_n (n := 1293) 2 dL_law_1292 rfl rfl ?_
  refine rs_cVl (n := 1296) (rest := [.long _]) (As := []) vm_X11_upper gw_1157 so_129 cq_10 dL_law_1293 rfl rfl (Nat.le_of_ble_eq_true rfl) rfl (CL.mono H (fun r4 I5 X6 H => ?_))
  refine r_lcmp (n := 1297) dL_law_1296 rfl ?_
  refine r_if_eq (n := 1300) (tgt := 1389) dL_law_1297 (by decide) rfl (fun c => ?_) (fun c => ?_)
  · have H := H.1 c
    exact r_sub [0, 1, 2, 3] rfl H
  · have H := H.2 c
    refine r_iconst (n := 1301) (v := 0) dL_law_1300 ki_0 rfl ?_
    exact rs_zret dL_law_1301 rfl (by decide) H
set_option maxRecDepth 20000 in
theorem rg_L_law_1302 {g : OG} {L : Nat} {xs : Nat → Int32} {nm : String} (hscr : scr_xs g L xs) {d : Nat} {I : IT} {X : XT} {K : Int32 → IT → XT → Prop} {l3 : Int32} 
    (H : CL g d iX10_lower [rf g 1] I X (fun r1 I2 X3 =>
        CL g d iX11_lower [rf g 129] I2 X3 (fun r4 I5 X6 =>
          ((lg_cmp r1 r4) = 0 →
            SR g (d + 1) (iLw nm) 1389 [(0, .ref (og_s g)), (1, rf g 1), (2, rf g 129), (3, .int l3)] I5 X6 (qI K)) ∧
          (¬ (lg_cmp r1 r4) = 0 →
            K 0 I5 X6)))) : SR g (d + 1) (iLw nm) 1302 [(0, .ref (og_s g)), (1, rf g 1), (2, rf g 129), (3, .int l3)] I X (qI K) := by
  refine r_aload_n (n := 1303) 1 dL_law_1302 rfl rfl ?_
  refine rs_cVl (n := 1306) (rest := []) (As := []) vm_X10_lower gw_967 so_1 cq_9 dL_law_1303 rfl rfl (Nat.le_of_ble_eq_true rfl) rfl (CL.mono H (fun r1 I2 X3 H => ?_))
  refine r_aload_n (n := 1307) 2 dL_law_1306 rfl rfl ?_
  refine rs_cVl (n := 1310) (rest := [.long _]) (As := []) vm_X11_lower gw_1161 so_129 cq_10 dL_law_1307 rfl rfl (Nat.le_of_ble_eq_true rfl) rfl (CL.mono H (fun r4 I5 X6 H => ?_))
  refine r_lcmp (n := 1311) dL_law_1310 rfl ?_
  refine r_if_eq (n := 1314) (tgt := 1389) dL_law_1311 (by decide) rfl (fun c => ?_) (fun c => ?_)
  · have H := H.1 c
    exact r_sub [0, 1, 2, 3] rfl H
  · have H := H.2 c
    refine r_iconst (n := 1315) (v := 0) dL_law_1314 ki_0 rfl ?_
    exact rs_zret dL_law_1315 rfl (by decide) H
set_option maxRecDepth 20000 in
theorem rg_L_law_1316 {g : OG} {L : Nat} {xs : Nat → Int32} {nm : String} (hscr : scr_xs g L xs) {d : Nat} {I : IT} {X : XT} {K : Int32 → IT → XT → Prop} {l3 : Int32} 
    (H : vp_in (l3 + 1) L ∧
      CI g d iX10_count [rf g 1, .int (xs (l3 + 1).toNatClampNeg)] I X (fun r2 I3 X4 =>
        vp_in (l3 + 1) L ∧
        CI g d iX11_count [rf g 129, .int (xs (l3 + 1).toNatClampNeg)] I3 X4 (fun r6 I7 X8 =>
          (r2 = r6 →
            SR g (d + 1) (iLw nm) 1389 [(0, .ref (og_s g)), (1, rf g 1), (2, rf g 129), (3, .int l3)] I7 X8 (qI K)) ∧
          (¬ r2 = r6 →
            K 0 I7 X8)))) : SR g (d + 1) (iLw nm) 1316 [(0, .ref (og_s g)), (1, rf g 1), (2, rf g 129), (3, .int l3)] I X (qI K) := by
  refine r_aload_n (n := 1317) 1 dL_law_1316 rfl rfl ?_
  refine r_aload_n (n := 1318) 0 dL_law_1317 rfl rfl ?_
  refine r_iload_n (n := 1319) 3 dL_law_1318 rfl rfl ?_
  refine r_iconst (n := 1320) (v := 1) dL_law_1319 ki_1 rfl ?_
  refine r_iadd (n := 1321) dL_law_1320 rfl ?_
  obtain ⟨hi1, H⟩ := H
  refine r_sld (n := 1322) hscr hi1 dL_law_1321 rfl ?_
  refine rs_cVi (n := 1325) (rest := []) (As := [.int _]) vm_X10_count gw_971 so_1 cq_9 dL_law_1322 rfl rfl (Nat.le_of_ble_eq_true rfl) rfl (CI.mono H (fun r2 I3 X4 H => ?_))
  refine r_aload_n (n := 1326) 2 dL_law_1325 rfl rfl ?_
  refine r_aload_n (n := 1327) 0 dL_law_1326 rfl rfl ?_
  refine r_iload_n (n := 1328) 3 dL_law_1327 rfl rfl ?_
  refine r_iconst (n := 1329) (v := 1) dL_law_1328 ki_1 rfl ?_
  refine r_iadd (n := 1330) dL_law_1329 rfl ?_
  obtain ⟨hi5, H⟩ := H
  refine r_sld (n := 1331) hscr hi5 dL_law_1330 rfl ?_
  refine rs_cVi (n := 1334) (rest := [.int _]) (As := [.int _]) vm_X11_count gw_1499 so_129 cq_10 dL_law_1331 rfl rfl (Nat.le_of_ble_eq_true rfl) rfl (CI.mono H (fun r6 I7 X8 H => ?_))
  refine r_icmp_eq (n := 1337) (tgt := 1389) dL_law_1334 (by decide) rfl (fun c => ?_) (fun c => ?_)
  · have H := H.1 c
    exact r_sub [0, 1, 2, 3] rfl H
  · have H := H.2 c
    refine r_iconst (n := 1338) (v := 0) dL_law_1337 ki_0 rfl ?_
    exact rs_zret dL_law_1338 rfl (by decide) H
set_option maxRecDepth 20000 in
theorem rg_L_law_1339 {g : OG} {L : Nat} {xs : Nat → Int32} {nm : String} (hscr : scr_xs g L xs) {d : Nat} {I : IT} {X : XT} {K : Int32 → IT → XT → Prop} {l3 : Int32} 
    (H : CI g d iX10_finding [rf g 1] I X (fun r1 I2 X3 =>
        CI g d iX11_finding [rf g 129] I2 X3 (fun r4 I5 X6 =>
          (r1 = r4 →
            SR g (d + 1) (iLw nm) 1389 [(0, .ref (og_s g)), (1, rf g 1), (2, rf g 129), (3, .int l3)] I5 X6 (qI K)) ∧
          (¬ r1 = r4 →
            K 0 I5 X6)))) : SR g (d + 1) (iLw nm) 1339 [(0, .ref (og_s g)), (1, rf g 1), (2, rf g 129), (3, .int l3)] I X (qI K) := by
  refine r_aload_n (n := 1340) 1 dL_law_1339 rfl rfl ?_
  refine rs_cVi (n := 1343) (rest := []) (As := []) vm_X10_finding gw_996 so_1 cq_9 dL_law_1340 rfl rfl (Nat.le_of_ble_eq_true rfl) rfl (CI.mono H (fun r1 I2 X3 H => ?_))
  refine r_aload_n (n := 1344) 2 dL_law_1343 rfl rfl ?_
  refine rs_cVi (n := 1347) (rest := [.int _]) (As := []) vm_X11_finding gw_1142 so_129 cq_10 dL_law_1344 rfl rfl (Nat.le_of_ble_eq_true rfl) rfl (CI.mono H (fun r4 I5 X6 H => ?_))
  refine r_icmp_eq (n := 1350) (tgt := 1389) dL_law_1347 (by decide) rfl (fun c => ?_) (fun c => ?_)
  · have H := H.1 c
    exact r_sub [0, 1, 2, 3] rfl H
  · have H := H.2 c
    refine r_iconst (n := 1351) (v := 0) dL_law_1350 ki_0 rfl ?_
    exact rs_zret dL_law_1351 rfl (by decide) H
set_option maxRecDepth 20000 in
theorem rg_L_law_1352 {g : OG} {L : Nat} {xs : Nat → Int32} {nm : String} (hscr : scr_xs g L xs) {d : Nat} {I : IT} {X : XT} {K : Int32 → IT → XT → Prop} {l3 : Int32} 
    (H : vp_in (l3 + 1) L ∧
      CI g d iX10_findings [rf g 1, .int (xs (l3 + 1).toNatClampNeg)] I X (fun r2 I3 X4 =>
        vp_in (l3 + 1) L ∧
        CI g d iX11_findings [rf g 129, .int (xs (l3 + 1).toNatClampNeg)] I3 X4 (fun r6 I7 X8 =>
          (r2 = r6 →
            SR g (d + 1) (iLw nm) 1389 [(0, .ref (og_s g)), (1, rf g 1), (2, rf g 129), (3, .int l3)] I7 X8 (qI K)) ∧
          (¬ r2 = r6 →
            K 0 I7 X8)))) : SR g (d + 1) (iLw nm) 1352 [(0, .ref (og_s g)), (1, rf g 1), (2, rf g 129), (3, .int l3)] I X (qI K) := by
  refine r_aload_n (n := 1353) 1 dL_law_1352 rfl rfl ?_
  refine r_aload_n (n := 1354) 0 dL_law_1353 rfl rfl ?_
  refine r_iload_n (n := 1355) 3 dL_law_1354 rfl rfl ?_
  refine r_iconst (n := 1356) (v := 1) dL_law_1355 ki_1 rfl ?_
  refine r_iadd (n := 1357) dL_law_1356 rfl ?_
  obtain ⟨hi1, H⟩ := H
  refine r_sld (n := 1358) hscr hi1 dL_law_1357 rfl ?_
  refine rs_cVi (n := 1361) (rest := []) (As := [.int _]) vm_X10_findings gw_1000 so_1 cq_9 dL_law_1358 rfl rfl (Nat.le_of_ble_eq_true rfl) rfl (CI.mono H (fun r2 I3 X4 H => ?_))
  refine r_aload_n (n := 1362) 2 dL_law_1361 rfl rfl ?_
  refine r_aload_n (n := 1363) 0 dL_law_1362 rfl rfl ?_
  refine r_iload_n (n := 1364) 3 dL_law_1363 rfl rfl ?_
  refine r_iconst (n := 1365) (v := 1) dL_law_1364 ki_1 rfl ?_
  refine r_iadd (n := 1366) dL_law_1365 rfl ?_
  obtain ⟨hi5, H⟩ := H
  refine r_sld (n := 1367) hscr hi5 dL_law_1366 rfl ?_
  refine rs_cVi (n := 1370) (rest := [.int _]) (As := [.int _]) vm_X11_findings gw_1146 so_129 cq_10 dL_law_1367 rfl rfl (Nat.le_of_ble_eq_true rfl) rfl (CI.mono H (fun r6 I7 X8 H => ?_))
  refine r_icmp_eq (n := 1373) (tgt := 1389) dL_law_1370 (by decide) rfl (fun c => ?_) (fun c => ?_)
  · have H := H.1 c
    exact r_sub [0, 1, 2, 3] rfl H
  · have H := H.2 c
    refine r_iconst (n := 1374) (v := 0) dL_law_1373 ki_0 rfl ?_
    exact rs_zret dL_law_1374 rfl (by decide) H
set_option maxRecDepth 20000 in
theorem rg_L_law_1375 {g : OG} {L : Nat} {xs : Nat → Int32} {nm : String} (hscr : scr_xs g L xs) {d : Nat} {I : IT} {X : XT} {K : Int32 → IT → XT → Prop} {l3 : Int32} 
    (H : CL g d iX10_digest [rf g 1] I X (fun r1 I2 X3 =>
        CL g d iX11_digest [rf g 129] I2 X3 (fun r4 I5 X6 =>
          ((lg_cmp r1 r4) = 0 →
            SR g (d + 1) (iLw nm) 1389 [(0, .ref (og_s g)), (1, rf g 1), (2, rf g 129), (3, .int l3)] I5 X6 (qI K)) ∧
          (¬ (lg_cmp r1 r4) = 0 →
            K 0 I5 X6)))) : SR g (d + 1) (iLw nm) 1375 [(0, .ref (og_s g)), (1, rf g 1), (2, rf g 129), (3, .int l3)] I X (qI K) := by
  refine r_aload_n (n := 1376) 1 dL_law_1375 rfl rfl ?_
  refine rs_cVl (n := 1379) (rest := []) (As := []) vm_X10_digest gw_1004 so_1 cq_9 dL_law_1376 rfl rfl (Nat.le_of_ble_eq_true rfl) rfl (CL.mono H (fun r1 I2 X3 H => ?_))
  refine r_aload_n (n := 1380) 2 dL_law_1379 rfl rfl ?_
  refine rs_cVl (n := 1383) (rest := [.long _]) (As := []) vm_X11_digest gw_1507 so_129 cq_10 dL_law_1380 rfl rfl (Nat.le_of_ble_eq_true rfl) rfl (CL.mono H (fun r4 I5 X6 H => ?_))
  refine r_lcmp (n := 1384) dL_law_1383 rfl ?_
  refine r_if_eq (n := 1387) (tgt := 1389) dL_law_1384 (by decide) rfl (fun c => ?_) (fun c => ?_)
  · have H := H.1 c
    exact r_sub [0, 1, 2, 3] rfl H
  · have H := H.2 c
    refine r_iconst (n := 1388) (v := 0) dL_law_1387 ki_0 rfl ?_
    exact rs_zret dL_law_1388 rfl (by decide) H
set_option maxRecDepth 20000 in
theorem rg_L_law_1389 {g : OG} {L : Nat} {xs : Nat → Int32} {nm : String} (hscr : scr_xs g L xs) {d : Nat} {I : IT} {X : XT} {K : Int32 → IT → XT → Prop} {l3 : Int32} 
    (H : ∀ x1 : Int32, x1 = l3 + 6 →
      SR g (d + 1) (iLw nm) 18 [(0, .ref (og_s g)), (1, rf g 1), (2, rf g 129), (3, .int x1)] I X (qI K)) : SR g (d + 1) (iLw nm) 1389 [(0, .ref (og_s g)), (1, rf g 1), (2, rf g 129), (3, .int l3)] I X (qI K) := by
  have H := H _ rfl
  refine r_iinc (n := 1392) (lv' := [(3, .int _), (0, .ref _), (1, .ref _), (2, .ref _)]) 3 dL_law_1389 rfl rfl (Nat.le_of_ble_eq_true rfl) rfl rfl ?_
  refine r_goto (n := 18) dL_law_1392 (by decide) ?_
  exact r_sub [1, 2, 3, 0] rfl H

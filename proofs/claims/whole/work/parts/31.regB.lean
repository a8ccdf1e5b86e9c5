set_option maxRecDepth 20000 in
theorem en_X10_row {g : OG} {d : Nat} {I : IT} {X : XT} {K : Int32 → IT → XT → Prop} {l1 : Int32} {l2 : Int32} 
    (H : CI g d iX10_isRow [.int l1] I X (fun r1 I2 X3 =>
        (r1 = 0 →
          K ((-1)) I2 X3) ∧
        (¬ r1 = 0 →
          (l2 ≤ 40 →
            (0 ≤ l2 →
              vp_in l1 6 ∧
              CV g d iX7_begin [rf g (rowA l1.toNatClampNeg), .int l2] I2 X3 (fun I5 X6 =>
                K l2 I5 X6)) ∧
            (¬ 0 ≤ l2 →
              CI g d iX10_found [rf g 1, .int 5] I2 X3 (fun r7 I8 X9 =>
                K r7 I8 X9))) ∧
          (¬ l2 ≤ 40 →
            K ((-1)) I2 X3)))) : CI g (d + 1) iX10_row [rf g 1, .int l1, .int l2] I X K := by
  refine ocall_of (by decide) (Nat.le_of_ble_eq_true rfl) ?_
  show SR g (d + 1) iX10_row 0 [(0, rf g 1), (1, .int l1), (2, .int l2)] I X (qI K)
  refine r_iload_n (n := 1) 1 dX10_row_0 rfl rfl ?_
  refine rs_cSi (n := 4) (rest := []) (As := [.int _]) sm_X10_isRow gw_375 dX10_row_1 rfl rfl (Nat.le_of_ble_eq_true rfl) rfl (CI.mono H (fun r1 I2 X3 H => ?_))
  refine r_if_eq (n := 7) (tgt := 13) dX10_row_4 (by decide) rfl (fun c => ?_) (fun c => ?_)
  · have H := H.1 c
    refine r_iconst (n := 14) (v := (-1)) dX10_row_13 ki_m1 rfl ?_
    exact rs_iret dX10_row_14 rfl H
  · have H := H.2 c
    refine r_iload_n (n := 8) 2 dX10_row_7 rfl rfl ?_
    refine r_bipush (n := 10) (v := 40) dX10_row_8 kb_40 rfl ?_
    refine r_icmp_le (n := 13) (tgt := 15) dX10_row_10 (by decide) rfl (fun c => ?_) (fun c => ?_)
    · have H := H.1 c
      refine r_iload_n (n := 16) 2 dX10_row_15 rfl rfl ?_
      refine r_if_ge (n := 19) (tgt := 25) dX10_row_16 (by decide) rfl (fun c => ?_) (fun c => ?_)
      · have H := H.1 c
        refine r_aload_n (n := 26) 0 dX10_row_25 rfl rfl ?_
        refine r_getR (n := 29) cls_9 0 fi_9_0 so_1 gw_319 dX10_row_26 rfl sr_1_0 (by decide) ?_
        refine r_iload_n (n := 30) 1 dX10_row_29 rfl rfl ?_
        obtain ⟨hi4, H⟩ := H
        refine r_aald (n := 31) (z := 6) (t0 := 3) (K := "OneMatch$Row") sa_2 (by decide) (fun _ => rfl) hi4 dX10_row_30 rfl (row_el hi4) (row_nz hi4) ?_
        refine r_iload_n (n := 32) 2 dX10_row_31 rfl rfl ?_
        refine rs_cVv (n := 35) (rest := []) (As := [.int _]) vm_X7_begin gw_382 (row_o (row_mem hi4)) cq_6 dX10_row_32 rfl rfl (Nat.le_of_ble_eq_true rfl) rfl (CV.mono H (fun I5 X6 H => ?_))
        refine r_iload_n (n := 36) 2 dX10_row_35 rfl rfl ?_
        exact rs_iret dX10_row_36 rfl H
      · have H := H.2 c
        refine r_aload_n (n := 20) 0 dX10_row_19 rfl rfl ?_
        refine r_iconst (n := 21) (v := 5) dX10_row_20 ki_5 rfl ?_
        refine rs_cVi (n := 24) (rest := []) (As := [.int _]) vm_X10_found gw_378 so_1 cq_9 dX10_row_21 rfl rfl (Nat.le_of_ble_eq_true rfl) rfl (CI.mono H (fun r7 I8 X9 H => ?_))
        exact rs_iret dX10_row_24 rfl H
    · have H := H.2 c
      refine r_iconst (n := 14) (v := (-1)) dX10_row_13 ki_m1 rfl ?_
      exact rs_iret dX10_row_14 rfl H
set_option maxRecDepth 20000 in
theorem en_X10_lay {g : OG} {d : Nat} {I : IT} {X : XT} {K : Int32 → IT → XT → Prop} {l1 : Int32} {l2 : Int32} {l3 : Int32} 
    (H : CI g d iX10_isRow [.int l1] I X (fun r1 I2 X3 =>
        (¬ r1 = 0 →
          vp_in l1 6 ∧
          CI g d iX7_lacks [rf g (rowA l1.toNatClampNeg), .int l2] I2 X3 (fun r5 I6 X7 =>
            (r5 = 0 →
              CI g d iX7_get [rf g (rowA l1.toNatClampNeg), .int l2] I6 X7 (fun r8 I9 X10 =>
                ∀ I11 : IT, I11 = set2 I9 1 14 r8 →
                CV g d iX7_set [rf g (rowA l1.toNatClampNeg), .int l2, .int l3] I11 X10 (fun I12 X13 =>
                  K 1 I12 X13))) ∧
            (¬ r5 = 0 →
              CI g d iX10_found [rf g 1, .int r5] I6 X7 (fun r14 I15 X16 =>
                K r14 I15 X16)))) ∧
        (r1 = 0 →
          K ((-1)) I2 X3))) : CI g (d + 1) iX10_lay [rf g 1, .int l1, .int l2, .int l3] I X K := by
  refine ocall_of (by decide) (Nat.le_of_ble_eq_true rfl) ?_
  show SR g (d + 1) iX10_lay 0 [(0, rf g 1), (1, .int l1), (2, .int l2), (3, .int l3)] I X (qI K)
  refine r_iload_n (n := 1) 1 dX10_lay_0 rfl rfl ?_
  refine rs_cSi (n := 4) (rest := []) (As := [.int _]) sm_X10_isRow gw_375 dX10_lay_1 rfl rfl (Nat.le_of_ble_eq_true rfl) rfl (CI.mono H (fun r1 I2 X3 H => ?_))
  refine r_if_ne (n := 7) (tgt := 9) dX10_lay_4 (by decide) rfl (fun c => ?_) (fun c => ?_)
  · have H := H.1 c
    refine r_aload_n (n := 10) 0 dX10_lay_9 rfl rfl ?_
    refine r_getR (n := 13) cls_9 0 fi_9_0 so_1 gw_319 dX10_lay_10 rfl sr_1_0 (by decide) ?_
    refine r_iload_n (n := 14) 1 dX10_lay_13 rfl rfl ?_
    obtain ⟨hi4, H⟩ := H
    refine r_aald (n := 15) (z := 6) (t0 := 3) (K := "OneMatch$Row") sa_2 (by decide) (fun _ => rfl) hi4 dX10_lay_14 rfl (row_el hi4) (row_nz hi4) ?_
    refine r_astore (n := 17) (lv' := [(4, .ref _), (0, .ref _), (1, .int _), (2, .int _), (3, .int _)]) dX10_lay_15 (by decide) rfl rfl ?_
    refine r_aload (n := 19) 0 dX10_lay_17 rfl rfl ?_
    refine r_iload_n (n := 20) 3 dX10_lay_19 rfl rfl ?_
    refine rs_cVi (n := 23) (rest := []) (As := [.int _]) vm_X7_lacks gw_390 (row_o (row_mem hi4)) cq_6 dX10_lay_20 rfl rfl (Nat.le_of_ble_eq_true rfl) rfl (CI.mono H (fun r5 I6 X7 H => ?_))
    refine r_istore (n := 25) (lv' := [(5, .int _), (4, .ref _), (0, .ref _), (1, .int _), (2, .int _), (3, .int _)]) dX10_lay_23 (by decide) rfl rfl ?_
    refine r_iload (n := 27) 0 dX10_lay_25 rfl rfl ?_
    refine r_if_eq (n := 30) (tgt := 37) dX10_lay_27 (by decide) rfl (fun c => ?_) (fun c => ?_)
    · have H := H.1 c
      refine r_aload_n (n := 38) 2 dX10_lay_37 rfl rfl ?_
      refine r_aload (n := 40) 1 dX10_lay_38 rfl rfl ?_
      refine r_iload_n (n := 41) 4 dX10_lay_40 rfl rfl ?_
      refine rs_cVi (n := 44) (rest := [.ref _]) (As := [.int _]) vm_X7_get gw_402 (row_o (row_mem hi4)) cq_6 dX10_lay_41 rfl rfl (Nat.le_of_ble_eq_true rfl) rfl (CI.mono H (fun r8 I9 X10 H => ?_))
      have H := H _ rfl
      refine rs_putI (n := 47) cls_9 14 fp_9_14 so_1 gw_333 dX10_lay_44 rfl ?_
      refine r_aload (n := 49) 1 dX10_lay_47 rfl rfl ?_
      refine r_iload_n (n := 50) 4 dX10_lay_49 rfl rfl ?_
      refine r_iload_n (n := 51) 5 dX10_lay_50 rfl rfl ?_
      refine rs_cVv (n := 54) (rest := []) (As := [.int _, .int _]) vm_X7_set gw_406 (row_o (row_mem hi4)) cq_6 dX10_lay_51 rfl rfl (Nat.le_of_ble_eq_true rfl) rfl (CV.mono H (fun I12 X13 H => ?_))
      refine r_iconst (n := 55) (v := 1) dX10_lay_54 ki_1 rfl ?_
      exact rs_iret dX10_lay_55 rfl H
    · have H := H.2 c
      refine r_aload_n (n := 31) 2 dX10_lay_30 rfl rfl ?_
      refine r_iload (n := 33) 0 dX10_lay_31 rfl rfl ?_
      refine rs_cVi (n := 36) (rest := []) (As := [.int _]) vm_X10_found gw_378 so_1 cq_9 dX10_lay_33 rfl rfl (Nat.le_of_ble_eq_true rfl) rfl (CI.mono H (fun r14 I15 X16 H => ?_))
      exact rs_iret dX10_lay_36 rfl H
  · have H := H.2 c
    refine r_iconst (n := 8) (v := (-1)) dX10_lay_7 ki_m1 rfl ?_
    exact rs_iret dX10_lay_8 rfl H
set_option maxRecDepth 20000 in
theorem en_X10_at {g : OG} {d : Nat} {I : IT} {X : XT} {K : Int32 → IT → XT → Prop} {l1 : Int32} {l2 : Int32} 
    (H : CI g d iX10_isRow [.int l1] I X (fun r1 I2 X3 =>
        (¬ r1 = 0 →
          vp_in l1 6 ∧
          CI g d iX7_lacks [rf g (rowA l1.toNatClampNeg), .int l2] I2 X3 (fun r5 I6 X7 =>
            (r5 = 0 →
              vp_in l1 6 ∧
              CI g d iX7_get [rf g (rowA l1.toNatClampNeg), .int l2] I6 X7 (fun r9 I10 X11 =>
                ∀ I12 : IT, I12 = set2 I10 1 14 r9 →
                K 1 I12 X11)) ∧
            (¬ r5 = 0 →
              CI g d iX10_found [rf g 1, .int r5] I6 X7 (fun r13 I14 X15 =>
                K r13 I14 X15)))) ∧
        (r1 = 0 →
          K ((-1)) I2 X3))) : CI g (d + 1) iX10_at [rf g 1, .int l1, .int l2] I X K := by
  refine ocall_of (by decide) (Nat.le_of_ble_eq_true rfl) ?_
  show SR g (d + 1) iX10_at 0 [(0, rf g 1), (1, .int l1), (2, .int l2)] I X (qI K)
  refine r_iload_n (n := 1) 1 dX10_at_0 rfl rfl ?_
  refine rs_cSi (n := 4) (rest := []) (As := [.int _]) sm_X10_isRow gw_375 dX10_at_1 rfl rfl (Nat.le_of_ble_eq_true rfl) rfl (CI.mono H (fun r1 I2 X3 H => ?_))
  refine r_if_ne (n := 7) (tgt := 9) dX10_at_4 (by decide) rfl (fun c => ?_) (fun c => ?_)
  · have H := H.1 c
    refine r_aload_n (n := 10) 0 dX10_at_9 rfl rfl ?_
    refine r_getR (n := 13) cls_9 0 fi_9_0 so_1 gw_319 dX10_at_10 rfl sr_1_0 (by decide) ?_
    refine r_iload_n (n := 14) 1 dX10_at_13 rfl rfl ?_
    obtain ⟨hi4, H⟩ := H
    refine r_aald (n := 15) (z := 6) (t0 := 3) (K := "OneMatch$Row") sa_2 (by decide) (fun _ => rfl) hi4 dX10_at_14 rfl (row_el hi4) (row_nz hi4) ?_
    refine r_iload_n (n := 16) 2 dX10_at_15 rfl rfl ?_
    refine rs_cVi (n := 19) (rest := []) (As := [.int _]) vm_X7_lacks gw_390 (row_o (row_mem hi4)) cq_6 dX10_at_16 rfl rfl (Nat.le_of_ble_eq_true rfl) rfl (CI.mono H (fun r5 I6 X7 H => ?_))
    refine r_istore_n (n := 20) (lv' := [(3, .int _), (0, .ref _), (1, .int _), (2, .int _)]) dX10_at_19 rfl (by decide) rfl rfl ?_
    refine r_iload_n (n := 21) 0 dX10_at_20 rfl rfl ?_
    refine r_if_eq (n := 24) (tgt := 30) dX10_at_21 (by decide) rfl (fun c => ?_) (fun c => ?_)
    · have H := H.1 c
      refine r_aload_n (n := 31) 1 dX10_at_30 rfl rfl ?_
      refine r_aload_n (n := 32) 1 dX10_at_31 rfl rfl ?_
      refine r_getR (n := 35) cls_9 0 fi_9_0 so_1 gw_319 dX10_at_32 rfl sr_1_0 (by decide) ?_
      refine r_iload_n (n := 36) 2 dX10_at_35 rfl rfl ?_
      obtain ⟨hi8, H⟩ := H
      refine r_aald (n := 37) (z := 6) (t0 := 3) (K := "OneMatch$Row") sa_2 (by decide) (fun _ => rfl) hi8 dX10_at_36 rfl (row_el hi8) (row_nz hi8) ?_
      refine r_iload_n (n := 38) 3 dX10_at_37 rfl rfl ?_
      refine rs_cVi (n := 41) (rest := [.ref _]) (As := [.int _]) vm_X7_get gw_402 (row_o (row_mem hi8)) cq_6 dX10_at_38 rfl rfl (Nat.le_of_ble_eq_true rfl) rfl (CI.mono H (fun r9 I10 X11 H => ?_))
      have H := H _ rfl
      refine rs_putI (n := 44) cls_9 14 fp_9_14 so_1 gw_333 dX10_at_41 rfl ?_
      refine r_iconst (n := 45) (v := 1) dX10_at_44 ki_1 rfl ?_
      exact rs_iret dX10_at_45 rfl H
    · have H := H.2 c
      refine r_aload_n (n := 25) 1 dX10_at_24 rfl rfl ?_
      refine r_iload_n (n := 26) 0 dX10_at_25 rfl rfl ?_
      refine rs_cVi (n := 29) (rest := []) (As := [.int _]) vm_X10_found gw_378 so_1 cq_9 dX10_at_26 rfl rfl (Nat.le_of_ble_eq_true rfl) rfl (CI.mono H (fun r13 I14 X15 H => ?_))
      exact rs_iret dX10_at_29 rfl H
  · have H := H.2 c
    refine r_iconst (n := 8) (v := (-1)) dX10_at_7 ki_m1 rfl ?_
    exact rs_iret dX10_at_8 rfl H
set_option maxRecDepth 20000 in
theorem en_X10_tear {g : OG} {d : Nat} {I : IT} {X : XT} {K : Int32 → IT → XT → Prop} {l1 : Int32} 
    (H : CI g d iX10_isRow [.int l1] I X (fun r1 I2 X3 =>
        (¬ r1 = 0 →
          vp_in l1 6 ∧
          CI g d iX7_isThere [rf g (rowA l1.toNatClampNeg)] I2 X3 (fun r5 I6 X7 =>
            (¬ r5 = 0 →
              vp_in l1 6 ∧
              CV g d iX7_end [rf g (rowA l1.toNatClampNeg)] I6 X7 (fun I9 X10 =>
                K 1 I9 X10)) ∧
            (r5 = 0 →
              CI g d iX10_found [rf g 1, .int 1] I6 X7 (fun r11 I12 X13 =>
                K r11 I12 X13)))) ∧
        (r1 = 0 →
          K ((-1)) I2 X3))) : CI g (d + 1) iX10_tear [rf g 1, .int l1] I X K := by
  refine ocall_of (by decide) (Nat.le_of_ble_eq_true rfl) ?_
  show SR g (d + 1) iX10_tear 0 [(0, rf g 1), (1, .int l1)] I X (qI K)
  refine r_iload_n (n := 1) 1 dX10_tear_0 rfl rfl ?_
  refine rs_cSi (n := 4) (rest := []) (As := [.int _]) sm_X10_isRow gw_375 dX10_tear_1 rfl rfl (Nat.le_of_ble_eq_true rfl) rfl (CI.mono H (fun r1 I2 X3 H => ?_))
  refine r_if_ne (n := 7) (tgt := 9) dX10_tear_4 (by decide) rfl (fun c => ?_) (fun c => ?_)
  · have H := H.1 c
    refine r_aload_n (n := 10) 0 dX10_tear_9 rfl rfl ?_
    refine r_getR (n := 13) cls_9 0 fi_9_0 so_1 gw_319 dX10_tear_10 rfl sr_1_0 (by decide) ?_
    refine r_iload_n (n := 14) 1 dX10_tear_13 rfl rfl ?_
    obtain ⟨hi4, H⟩ := H
    refine r_aald (n := 15) (z := 6) (t0 := 3) (K := "OneMatch$Row") sa_2 (by decide) (fun _ => rfl) hi4 dX10_tear_14 rfl (row_el hi4) (row_nz hi4) ?_
    refine rs_cVi (n := 18) (rest := []) (As := []) vm_X7_isThere gw_418 (row_o (row_mem hi4)) cq_6 dX10_tear_15 rfl rfl (Nat.le_of_ble_eq_true rfl) rfl (CI.mono H (fun r5 I6 X7 H => ?_))
    refine r_if_ne (n := 21) (tgt := 27) dX10_tear_18 (by decide) rfl (fun c => ?_) (fun c => ?_)
    · have H := H.1 c
      refine r_aload_n (n := 28) 0 dX10_tear_27 rfl rfl ?_
      refine r_getR (n := 31) cls_9 0 fi_9_0 so_1 gw_319 dX10_tear_28 rfl sr_1_0 (by decide) ?_
      refine r_iload_n (n := 32) 1 dX10_tear_31 rfl rfl ?_
      obtain ⟨hi8, H⟩ := H
      refine r_aald (n := 33) (z := 6) (t0 := 3) (K := "OneMatch$Row") sa_2 (by decide) (fun _ => rfl) hi8 dX10_tear_32 rfl (row_el hi8) (row_nz hi8) ?_
      refine rs_cVv (n := 36) (rest := []) (As := []) vm_X7_end gw_419 (row_o (row_mem hi8)) cq_6 dX10_tear_33 rfl rfl (Nat.le_of_ble_eq_true rfl) rfl (CV.mono H (fun I9 X10 H => ?_))
      refine r_iconst (n := 37) (v := 1) dX10_tear_36 ki_1 rfl ?_
      exact rs_iret dX10_tear_37 rfl H
    · have H := H.2 c
      refine r_aload_n (n := 22) 0 dX10_tear_21 rfl rfl ?_
      refine r_iconst (n := 23) (v := 1) dX10_tear_22 ki_1 rfl ?_
      refine rs_cVi (n := 26) (rest := []) (As := [.int _]) vm_X10_found gw_378 so_1 cq_9 dX10_tear_23 rfl rfl (Nat.le_of_ble_eq_true rfl) rfl (CI.mono H (fun r11 I12 X13 H => ?_))
      exact rs_iret dX10_tear_26 rfl H
  · have H := H.2 c
    refine r_iconst (n := 8) (v := (-1)) dX10_tear_7 ki_m1 rfl ?_
    exact rs_iret dX10_tear_8 rfl H
set_option maxRecDepth 20000 in
theorem en_X10_copy {g : OG} {d : Nat} {I : IT} {X : XT} {K : Int32 → IT → XT → Prop} {l1 : Int32} {l2 : Int32} {l3 : Int32} {l4 : Int32} {l5 : Int32} 
    (H : CI g d iX10_isRow [.int l1] I X (fun r1 I2 X3 =>
        (r1 = 0 →
          K ((-1)) I2 X3) ∧
        (¬ r1 = 0 →
          CI g d iX10_isRow [.int l3] I2 X3 (fun r4 I5 X6 =>
            (¬ r4 = 0 →
              (0 ≤ l5 →
                vp_in l1 6 ∧
                CI g d iX7_isThere [rf g (rowA l1.toNatClampNeg)] I5 X6 (fun r8 I9 X10 =>
                  (r8 = 0 →
                    CI g d iX10_found [rf g 1, .int 1] I9 X10 (fun r11 I12 X13 =>
                      K r11 I12 X13)) ∧
                  (¬ r8 = 0 →
                    vp_in l3 6 ∧
                    CI g d iX7_isThere [rf g (rowA l3.toNatClampNeg)] I9 X10 (fun r15 I16 X17 =>
                      (¬ r15 = 0 →
                        vp_in l1 6 ∧
                        CI g d iX7_hasSpan [rf g (rowA l1.toNatClampNeg), .int l2, .int l5] I16 X17 (fun r19 I20 X21 =>
                          (r19 = 0 →
                            CI g d iX10_found [rf g 1, .int 2] I20 X21 (fun r22 I23 X24 =>
                              K r22 I23 X24)) ∧
                          (¬ r19 = 0 →
                            vp_in l3 6 ∧
                            CI g d iX7_hasSpan [rf g (rowA l3.toNatClampNeg), .int l4, .int l5] I20 X21 (fun r26 I27 X28 =>
                              (¬ r26 = 0 →
                                vp_in l1 6 ∧
                                vp_in l3 6 ∧
                                ((¬ l2 < 0 ∧ ¬ l4 < 0 ∧ ¬ l5 < 0) ∧ l2.toNatClampNeg + l5.toNatClampNeg ≤ 40 ∧ l4.toNatClampNeg + l5.toNatClampNeg ≤ 40) ∧
                                ∀ I31 : IT, I31 = setRow I27 (rowA l3.toNatClampNeg + 1) (va_cpy (I27 (rowA l1.toNatClampNeg + 1)) (I27 (rowA l3.toNatClampNeg + 1)) l2.toNatClampNeg l4.toNatClampNeg l5.toNatClampNeg) →
                                K 1 I31 X28) ∧
                              (r26 = 0 →
                                CI g d iX10_found [rf g 1, .int 2] I27 X28 (fun r33 I34 X35 =>
                                  K r33 I34 X35)))))) ∧
                      (r15 = 0 →
                        CI g d iX10_found [rf g 1, .int 1] I16 X17 (fun r36 I37 X38 =>
                          K r36 I37 X38)))))) ∧
              (¬ 0 ≤ l5 →
                CI g d iX10_found [rf g 1, .int 5] I5 X6 (fun r39 I40 X41 =>
                  K r39 I40 X41))) ∧
            (r4 = 0 →
              K ((-1)) I5 X6))))) : CI g (d + 1) iX10_copy [rf g 1, .int l1, .int l2, .int l3, .int l4, .int l5] I X K := by
  refine ocall_of (by decide) (Nat.le_of_ble_eq_true rfl) ?_
  show SR g (d + 1) iX10_copy 0 [(0, rf g 1), (1, .int l1), (2, .int l2), (3, .int l3), (4, .int l4), (5, .int l5)] I X (qI K)
  refine r_iload_n (n := 1) 1 dX10_copy_0 rfl rfl ?_
  refine rs_cSi (n := 4) (rest := []) (As := [.int _]) sm_X10_isRow gw_375 dX10_copy_1 rfl rfl (Nat.le_of_ble_eq_true rfl) rfl (CI.mono H (fun r1 I2 X3 H => ?_))
  refine r_if_eq (n := 7) (tgt := 14) dX10_copy_4 (by decide) rfl (fun c => ?_) (fun c => ?_)
  · have H := H.1 c
    refine r_iconst (n := 15) (v := (-1)) dX10_copy_14 ki_m1 rfl ?_
    exact rs_iret dX10_copy_15 rfl H
  · have H := H.2 c
    refine r_iload_n (n := 8) 3 dX10_copy_7 rfl rfl ?_
    refine rs_cSi (n := 11) (rest := []) (As := [.int _]) sm_X10_isRow gw_375 dX10_copy_8 rfl rfl (Nat.le_of_ble_eq_true rfl) rfl (CI.mono H (fun r4 I5 X6 H => ?_))
    refine r_if_ne (n := 14) (tgt := 16) dX10_copy_11 (by decide) rfl (fun c => ?_) (fun c => ?_)
    · have H := H.1 c
      refine r_iload (n := 18) 5 dX10_copy_16 rfl rfl ?_
      refine r_if_ge (n := 21) (tgt := 27) dX10_copy_18 (by decide) rfl (fun c => ?_) (fun c => ?_)
      · have H := H.1 c
        refine r_aload_n (n := 28) 0 dX10_copy_27 rfl rfl ?_
        refine r_getR (n := 31) cls_9 0 fi_9_0 so_1 gw_319 dX10_copy_28 rfl sr_1_0 (by decide) ?_
        refine r_iload_n (n := 32) 1 dX10_copy_31 rfl rfl ?_
        obtain ⟨hi7, H⟩ := H
        refine r_aald (n := 33) (z := 6) (t0 := 3) (K := "OneMatch$Row") sa_2 (by decide) (fun _ => rfl) hi7 dX10_copy_32 rfl (row_el hi7) (row_nz hi7) ?_
        refine rs_cVi (n := 36) (rest := []) (As := []) vm_X7_isThere gw_418 (row_o (row_mem hi7)) cq_6 dX10_copy_33 rfl rfl (Nat.le_of_ble_eq_true rfl) rfl (CI.mono H (fun r8 I9 X10 H => ?_))
        refine r_if_eq (n := 39) (tgt := 51) dX10_copy_36 (by decide) rfl (fun c => ?_) (fun c => ?_)
        · have H := H.1 c
          refine r_aload_n (n := 52) 0 dX10_copy_51 rfl rfl ?_
          refine r_iconst (n := 53) (v := 1) dX10_copy_52 ki_1 rfl ?_
          refine rs_cVi (n := 56) (rest := []) (As := [.int _]) vm_X10_found gw_378 so_1 cq_9 dX10_copy_53 rfl rfl (Nat.le_of_ble_eq_true rfl) rfl (CI.mono H (fun r11 I12 X13 H => ?_))
          exact rs_iret dX10_copy_56 rfl H
        · have H := H.2 c
          refine r_aload_n (n := 40) 0 dX10_copy_39 rfl rfl ?_
          refine r_getR (n := 43) cls_9 0 fi_9_0 so_1 gw_319 dX10_copy_40 rfl sr_1_0 (by decide) ?_
          refine r_iload_n (n := 44) 3 dX10_copy_43 rfl rfl ?_
          obtain ⟨hi14, H⟩ := H
          refine r_aald (n := 45) (z := 6) (t0 := 3) (K := "OneMatch$Row") sa_2 (by decide) (fun _ => rfl) hi14 dX10_copy_44 rfl (row_el hi14) (row_nz hi14) ?_
          refine rs_cVi (n := 48) (rest := []) (As := []) vm_X7_isThere gw_418 (row_o (row_mem hi14)) cq_6 dX10_copy_45 rfl rfl (Nat.le_of_ble_eq_true rfl) rfl (CI.mono H (fun r15 I16 X17 H => ?_))
          refine r_if_ne (n := 51) (tgt := 57) dX10_copy_48 (by decide) rfl (fun c => ?_) (fun c => ?_)
          · have H := H.1 c
            refine r_aload_n (n := 58) 0 dX10_copy_57 rfl rfl ?_
            refine r_getR (n := 61) cls_9 0 fi_9_0 so_1 gw_319 dX10_copy_58 rfl sr_1_0 (by decide) ?_
            refine r_iload_n (n := 62) 1 dX10_copy_61 rfl rfl ?_
            obtain ⟨hi18, H⟩ := H
            refine r_aald (n := 63) (z := 6) (t0 := 3) (K := "OneMatch$Row") sa_2 (by decide) (fun _ => rfl) hi18 dX10_copy_62 rfl (row_el hi18) (row_nz hi18) ?_
            refine r_iload_n (n := 64) 2 dX10_copy_63 rfl rfl ?_
            refine r_iload (n := 66) 5 dX10_copy_64 rfl rfl ?_
            refine rs_cVi (n := 69) (rest := []) (As := [.int _, .int _]) vm_X7_hasSpan gw_427 (row_o (row_mem hi18)) cq_6 dX10_copy_66 rfl rfl (Nat.le_of_ble_eq_true rfl) rfl (CI.mono H (fun r19 I20 X21 H => ?_))
            refine r_if_eq (n := 72) (tgt := 88) dX10_copy_69 (by decide) rfl (fun c => ?_) (fun c => ?_)
            · have H := H.1 c
              refine r_aload_n (n := 89) 0 dX10_copy_88 rfl rfl ?_
              refine r_iconst (n := 90) (v := 2) dX10_copy_89 ki_2 rfl ?_
              refine rs_cVi (n := 93) (rest := []) (As := [.int _]) vm_X10_found gw_378 so_1 cq_9 dX10_copy_90 rfl rfl (Nat.le_of_ble_eq_true rfl) rfl (CI.mono H (fun r22 I23 X24 H => ?_))
              exact rs_iret dX10_copy_93 rfl H
            · have H := H.2 c
              refine r_aload_n (n := 73) 0 dX10_copy_72 rfl rfl ?_
              refine r_getR (n := 76) cls_9 0 fi_9_0 so_1 gw_319 dX10_copy_73 rfl sr_1_0 (by decide) ?_
              refine r_iload_n (n := 77) 3 dX10_copy_76 rfl rfl ?_
              obtain ⟨hi25, H⟩ := H
              refine r_aald (n := 78) (z := 6) (t0 := 3) (K := "OneMatch$Row") sa_2 (by decide) (fun _ => rfl) hi25 dX10_copy_77 rfl (row_el hi25) (row_nz hi25) ?_
              refine r_iload (n := 80) 4 dX10_copy_78 rfl rfl ?_
              refine r_iload (n := 82) 5 dX10_copy_80 rfl rfl ?_
              refine rs_cVi (n := 85) (rest := []) (As := [.int _, .int _]) vm_X7_hasSpan gw_427 (row_o (row_mem hi25)) cq_6 dX10_copy_82 rfl rfl (Nat.le_of_ble_eq_true rfl) rfl (CI.mono H (fun r26 I27 X28 H => ?_))
              refine r_if_ne (n := 88) (tgt := 94) dX10_copy_85 (by decide) rfl (fun c => ?_) (fun c => ?_)
              · have H := H.1 c
                refine r_aload_n (n := 95) 0 dX10_copy_94 rfl rfl ?_
                refine r_getR (n := 98) cls_9 0 fi_9_0 so_1 gw_319 dX10_copy_95 rfl sr_1_0 (by decide) ?_
                refine r_iload_n (n := 99) 1 dX10_copy_98 rfl rfl ?_
                obtain ⟨hi29, H⟩ := H
                refine r_aald (n := 100) (z := 6) (t0 := 3) (K := "OneMatch$Row") sa_2 (by decide) (fun _ => rfl) hi29 dX10_copy_99 rfl (row_el hi29) (row_nz hi29) ?_
                refine r_getR (n := 103) cls_6 0 fi_6_0 (row_o (row_mem hi29)) gw_95 dX10_copy_100 rfl (row_r0 (row_mem hi29)) (row_n0 (row_mem hi29)) ?_
                refine r_iload_n (n := 104) 2 dX10_copy_103 rfl rfl ?_
                refine r_aload_n (n := 105) 0 dX10_copy_104 rfl rfl ?_
                refine r_getR (n := 108) cls_9 0 fi_9_0 so_1 gw_319 dX10_copy_105 rfl sr_1_0 (by decide) ?_
                refine r_iload_n (n := 109) 3 dX10_copy_108 rfl rfl ?_
                obtain ⟨hi30, H⟩ := H
                refine r_aald (n := 110) (z := 6) (t0 := 3) (K := "OneMatch$Row") sa_2 (by decide) (fun _ => rfl) hi30 dX10_copy_109 rfl (row_el hi30) (row_nz hi30) ?_
                refine r_getR (n := 113) cls_6 0 fi_6_0 (row_o (row_mem hi30)) gw_95 dX10_copy_110 rfl (row_r0 (row_mem hi30)) (row_n0 (row_mem hi30)) ?_
                refine r_iload (n := 115) 4 dX10_copy_113 rfl rfl ?_
                refine r_iload (n := 117) 5 dX10_copy_115 rfl rfl ?_
                obtain ⟨hc32, H⟩ := H
                have H := H _ rfl
                refine rs_copy (n := 120) (row_a0 (row_mem hi29)) (row_a0 (row_mem hi30)) ⟨gw_431, gw_433, gw_432, gw_75⟩ hc32 (Nat.le_of_ble_eq_true rfl) dX10_copy_117 rfl ?_
                refine r_iconst (n := 121) (v := 1) dX10_copy_120 ki_1 rfl ?_
                exact rs_iret dX10_copy_121 rfl H
              · have H := H.2 c
                refine r_aload_n (n := 89) 0 dX10_copy_88 rfl rfl ?_
                refine r_iconst (n := 90) (v := 2) dX10_copy_89 ki_2 rfl ?_
                refine rs_cVi (n := 93) (rest := []) (As := [.int _]) vm_X10_found gw_378 so_1 cq_9 dX10_copy_90 rfl rfl (Nat.le_of_ble_eq_true rfl) rfl (CI.mono H (fun r33 I34 X35 H => ?_))
                exact rs_iret dX10_copy_93 rfl H
          · have H := H.2 c
            refine r_aload_n (n := 52) 0 dX10_copy_51 rfl rfl ?_
            refine r_iconst (n := 53) (v := 1) dX10_copy_52 ki_1 rfl ?_
            refine rs_cVi (n := 56) (rest := []) (As := [.int _]) vm_X10_found gw_378 so_1 cq_9 dX10_copy_53 rfl rfl (Nat.le_of_ble_eq_true rfl) rfl (CI.mono H (fun r36 I37 X38 H => ?_))
            exact rs_iret dX10_copy_56 rfl H
      · have H := H.2 c
        refine r_aload_n (n := 22) 0 dX10_copy_21 rfl rfl ?_
        refine r_iconst (n := 23) (v := 5) dX10_copy_22 ki_5 rfl ?_
        refine rs_cVi (n := 26) (rest := []) (As := [.int _]) vm_X10_found gw_378 so_1 cq_9 dX10_copy_23 rfl rfl (Nat.le_of_ble_eq_true rfl) rfl (CI.mono H (fun r39 I40 X41 H => ?_))
        exact rs_iret dX10_copy_26 rfl H
    · have H := H.2 c
      refine r_iconst (n := 15) (v := (-1)) dX10_copy_14 ki_m1 rfl ?_
      exact rs_iret dX10_copy_15 rfl H
set_option maxRecDepth 20000 in
theorem en_X10_mean {g : OG} {d : Nat} {I : IT} {X : XT} {K : Int32 → IT → XT → Prop} {l1 : Int32} 
    (H : CI g d iX10_isRow [.int l1] I X (fun r1 I2 X3 =>
        (¬ r1 = 0 →
          vp_in l1 6 ∧
          CI g d iX7_isThere [rf g (rowA l1.toNatClampNeg)] I2 X3 (fun r5 I6 X7 =>
            (¬ r5 = 0 →
              (¬ (I6 (rowA l1.toNatClampNeg) 1) = 0 →
                CL g d iX7_sum [rf g (rowA l1.toNatClampNeg)] I6 X7 (fun r8 I9 X10 =>
                  ¬ ((I9 (rowA l1.toNatClampNeg) 1).toInt64) = 0 ∧
                  ∀ I12 : IT, I12 = set2 I9 1 14 ((r8 / ((I9 (rowA l1.toNatClampNeg) 1).toInt64)).toInt32) →
                  K 1 I12 X10)) ∧
              ((I6 (rowA l1.toNatClampNeg) 1) = 0 →
                CI g d iX10_found [rf g 1, .int 4] I6 X7 (fun r13 I14 X15 =>
                  K r13 I14 X15))) ∧
            (r5 = 0 →
              CI g d iX10_found [rf g 1, .int 1] I6 X7 (fun r16 I17 X18 =>
                K r16 I17 X18)))) ∧
        (r1 = 0 →
          K ((-1)) I2 X3))) : CI g (d + 1) iX10_mean [rf g 1, .int l1] I X K := by
  refine ocall_of (by decide) (Nat.le_of_ble_eq_true rfl) ?_
  show SR g (d + 1) iX10_mean 0 [(0, rf g 1), (1, .int l1)] I X (qI K)
  refine r_iload_n (n := 1) 1 dX10_mean_0 rfl rfl ?_
  refine rs_cSi (n := 4) (rest := []) (As := [.int _]) sm_X10_isRow gw_375 dX10_mean_1 rfl rfl (Nat.le_of_ble_eq_true rfl) rfl (CI.mono H (fun r1 I2 X3 H => ?_))
  refine r_if_ne (n := 7) (tgt := 9) dX10_mean_4 (by decide) rfl (fun c => ?_) (fun c => ?_)
  · have H := H.1 c
    refine r_aload_n (n := 10) 0 dX10_mean_9 rfl rfl ?_
    refine r_getR (n := 13) cls_9 0 fi_9_0 so_1 gw_319 dX10_mean_10 rfl sr_1_0 (by decide) ?_
    refine r_iload_n (n := 14) 1 dX10_mean_13 rfl rfl ?_
    obtain ⟨hi4, H⟩ := H
    refine r_aald (n := 15) (z := 6) (t0 := 3) (K := "OneMatch$Row") sa_2 (by decide) (fun _ => rfl) hi4 dX10_mean_14 rfl (row_el hi4) (row_nz hi4) ?_
    refine r_astore_n (n := 16) (lv' := [(2, .ref _), (0, .ref _), (1, .int _)]) dX10_mean_15 rfl (by decide) rfl rfl ?_
    refine r_aload_n (n := 17) 0 dX10_mean_16 rfl rfl ?_
    refine rs_cVi (n := 20) (rest := []) (As := []) vm_X7_isThere gw_418 (row_o (row_mem hi4)) cq_6 dX10_mean_17 rfl rfl (Nat.le_of_ble_eq_true rfl) rfl (CI.mono H (fun r5 I6 X7 H => ?_))
    refine r_if_ne (n := 23) (tgt := 29) dX10_mean_20 (by decide) rfl (fun c => ?_) (fun c => ?_)
    · have H := H.1 c
      refine r_aload_n (n := 30) 0 dX10_mean_29 rfl rfl ?_
      refine rs_getI (n := 33) cls_6 1 fi_6_1 (row_o (row_mem hi4)) gw_99 dX10_mean_30 rfl ?_
      refine r_if_ne (n := 36) (tgt := 42) dX10_mean_33 (by decide) rfl (fun c => ?_) (fun c => ?_)
      · have H := H.1 c
        refine r_aload_n (n := 43) 1 dX10_mean_42 rfl rfl ?_
        refine r_aload_n (n := 44) 0 dX10_mean_43 rfl rfl ?_
        refine rs_cVl (n := 47) (rest := [.ref _]) (As := []) vm_X7_sum gw_438 (row_o (row_mem hi4)) cq_6 dX10_mean_44 rfl rfl (Nat.le_of_ble_eq_true rfl) rfl (CL.mono H (fun r8 I9 X10 H => ?_))
        refine r_aload_n (n := 48) 0 dX10_mean_47 rfl rfl ?_
        refine rs_getI (n := 51) cls_6 1 fi_6_1 (row_o (row_mem hi4)) gw_99 dX10_mean_48 rfl ?_
        refine r_i2l (n := 52) dX10_mean_51 rfl ?_
        obtain ⟨hz11, H⟩ := H
        refine r_ldiv (n := 53) dX10_mean_52 hz11 rfl ?_
        refine r_l2i (n := 54) dX10_mean_53 rfl ?_
        have H := H _ rfl
        refine rs_putI (n := 57) cls_9 14 fp_9_14 so_1 gw_333 dX10_mean_54 rfl ?_
        refine r_iconst (n := 58) (v := 1) dX10_mean_57 ki_1 rfl ?_
        exact rs_iret dX10_mean_58 rfl H
      · have H := H.2 c
        refine r_aload_n (n := 37) 1 dX10_mean_36 rfl rfl ?_
        refine r_iconst (n := 38) (v := 4) dX10_mean_37 ki_4 rfl ?_
        refine rs_cVi (n := 41) (rest := []) (As := [.int _]) vm_X10_found gw_378 so_1 cq_9 dX10_mean_38 rfl rfl (Nat.le_of_ble_eq_true rfl) rfl (CI.mono H (fun r13 I14 X15 H => ?_))
        exact rs_iret dX10_mean_41 rfl H
    · have H := H.2 c
      refine r_aload_n (n := 24) 1 dX10_mean_23 rfl rfl ?_
      refine r_iconst (n := 25) (v := 1) dX10_mean_24 ki_1 rfl ?_
      refine rs_cVi (n := 28) (rest := []) (As := [.int _]) vm_X10_found gw_378 so_1 cq_9 dX10_mean_25 rfl rfl (Nat.le_of_ble_eq_true rfl) rfl (CI.mono H (fun r16 I17 X18 H => ?_))
      exact rs_iret dX10_mean_28 rfl H
  · have H := H.2 c
    refine r_iconst (n := 8) (v := (-1)) dX10_mean_7 ki_m1 rfl ?_
    exact rs_iret dX10_mean_8 rfl H
set_option maxRecDepth 20000 in
theorem en_X10_text {g : OG} {d : Nat} {I : IT} {X : XT} {K : Int32 → IT → XT → Prop} {l1 : Int32} {l2 : Int32} 
    (H : CI g d iX10_isText [.int l1] I X (fun r1 I2 X3 =>
        (r1 = 0 →
          K ((-1)) I2 X3) ∧
        (¬ r1 = 0 →
          (l2 ≤ 60 →
            (0 ≤ l2 →
              vp_in l1 4 ∧
              CV g d iX9_begin [rf g (textA l1.toNatClampNeg), .int l2] I2 X3 (fun I5 X6 =>
                K l2 I5 X6)) ∧
            (¬ 0 ≤ l2 →
              CI g d iX10_found [rf g 1, .int 5] I2 X3 (fun r7 I8 X9 =>
                K r7 I8 X9))) ∧
          (¬ l2 ≤ 60 →
            K ((-1)) I2 X3)))) : CI g (d + 1) iX10_text [rf g 1, .int l1, .int l2] I X K := by
  refine ocall_of (by decide) (Nat.le_of_ble_eq_true rfl) ?_
  show SR g (d + 1) iX10_text 0 [(0, rf g 1), (1, .int l1), (2, .int l2)] I X (qI K)
  refine r_iload_n (n := 1) 1 dX10_text_0 rfl rfl ?_
  refine rs_cSi (n := 4) (rest := []) (As := [.int _]) sm_X10_isText gw_446 dX10_text_1 rfl rfl (Nat.le_of_ble_eq_true rfl) rfl (CI.mono H (fun r1 I2 X3 H => ?_))
  refine r_if_eq (n := 7) (tgt := 13) dX10_text_4 (by decide) rfl (fun c => ?_) (fun c => ?_)
  · have H := H.1 c
    refine r_iconst (n := 14) (v := (-1)) dX10_text_13 ki_m1 rfl ?_
    exact rs_iret dX10_text_14 rfl H
  · have H := H.2 c
    refine r_iload_n (n := 8) 2 dX10_text_7 rfl rfl ?_
    refine r_bipush (n := 10) (v := 60) dX10_text_8 kb_60 rfl ?_
    refine r_icmp_le (n := 13) (tgt := 15) dX10_text_10 (by decide) rfl (fun c => ?_) (fun c => ?_)
    · have H := H.1 c
      refine r_iload_n (n := 16) 2 dX10_text_15 rfl rfl ?_
      refine r_if_ge (n := 19) (tgt := 25) dX10_text_16 (by decide) rfl (fun c => ?_) (fun c => ?_)
      · have H := H.1 c
        refine r_aload_n (n := 26) 0 dX10_text_25 rfl rfl ?_
        refine r_getR (n := 29) cls_9 1 fi_9_1 so_1 gw_320 dX10_text_26 rfl sr_1_1 (by decide) ?_
        refine r_iload_n (n := 30) 1 dX10_text_29 rfl rfl ?_
        obtain ⟨hi4, H⟩ := H
        refine r_aald (n := 31) (z := 4) (t0 := 4) (K := "OneMatch$Text") sa_15 (by decide) (fun _ => rfl) hi4 dX10_text_30 rfl (text_el hi4) (text_nz hi4) ?_
        refine r_iload_n (n := 32) 2 dX10_text_31 rfl rfl ?_
        refine rs_cVv (n := 35) (rest := []) (As := [.int _]) vm_X9_begin gw_449 (text_o (text_mem hi4)) cq_8 dX10_text_32 rfl rfl (Nat.le_of_ble_eq_true rfl) rfl (CV.mono H (fun I5 X6 H => ?_))
        refine r_iload_n (n := 36) 2 dX10_text_35 rfl rfl ?_
        exact rs_iret dX10_text_36 rfl H
      · have H := H.2 c
        refine r_aload_n (n := 20) 0 dX10_text_19 rfl rfl ?_
        refine r_iconst (n := 21) (v := 5) dX10_text_20 ki_5 rfl ?_
        refine rs_cVi (n := 24) (rest := []) (As := [.int _]) vm_X10_found gw_378 so_1 cq_9 dX10_text_21 rfl rfl (Nat.le_of_ble_eq_true rfl) rfl (CI.mono H (fun r7 I8 X9 H => ?_))
        exact rs_iret dX10_text_24 rfl H
    · have H := H.2 c
      refine r_iconst (n := 14) (v := (-1)) dX10_text_13 ki_m1 rfl ?_
      exact rs_iret dX10_text_14 rfl H
set_option maxRecDepth 20000 in
theorem en_X10_put {g : OG} {d : Nat} {I : IT} {X : XT} {K : Int32 → IT → XT → Prop} {l1 : Int32} {l2 : Int32} {l3 : Int32} 
    (H : CI g d iX10_isText [.int l1] I X (fun r1 I2 X3 =>
        (¬ r1 = 0 →
          vp_in l1 4 ∧
          CI g d iX9_isThere [rf g (textA l1.toNatClampNeg)] I2 X3 (fun r5 I6 X7 =>
            (¬ r5 = 0 →
              CI g d iX9_has [rf g (textA l1.toNatClampNeg), .int l2] I6 X7 (fun r8 I9 X10 =>
                (¬ r8 = 0 →
                  CI g d iX9_get [rf g (textA l1.toNatClampNeg), .int l2] I9 X10 (fun r11 I12 X13 =>
                    CV g d iX9_set [rf g (textA l1.toNatClampNeg), .int l2, .int l3] I12 X13 (fun I14 X15 =>
                      K (r11 + 1000) I14 X15))) ∧
                (r8 = 0 →
                  CI g d iX10_found [rf g 1, .int 2] I9 X10 (fun r16 I17 X18 =>
                    K r16 I17 X18)))) ∧
            (r5 = 0 →
              CI g d iX10_found [rf g 1, .int 1] I6 X7 (fun r19 I20 X21 =>
                K r19 I20 X21)))) ∧
        (r1 = 0 →
          K ((-1)) I2 X3))) : CI g (d + 1) iX10_put [rf g 1, .int l1, .int l2, .int l3] I X K := by
  refine ocall_of (by decide) (Nat.le_of_ble_eq_true rfl) ?_
  show SR g (d + 1) iX10_put 0 [(0, rf g 1), (1, .int l1), (2, .int l2), (3, .int l3)] I X (qI K)
  refine r_iload_n (n := 1) 1 dX10_put_0 rfl rfl ?_
  refine rs_cSi (n := 4) (rest := []) (As := [.int _]) sm_X10_isText gw_446 dX10_put_1 rfl rfl (Nat.le_of_ble_eq_true rfl) rfl (CI.mono H (fun r1 I2 X3 H => ?_))
  refine r_if_ne (n := 7) (tgt := 9) dX10_put_4 (by decide) rfl (fun c => ?_) (fun c => ?_)
  · have H := H.1 c
    refine r_aload_n (n := 10) 0 dX10_put_9 rfl rfl ?_
    refine r_getR (n := 13) cls_9 1 fi_9_1 so_1 gw_320 dX10_put_10 rfl sr_1_1 (by decide) ?_
    refine r_iload_n (n := 14) 1 dX10_put_13 rfl rfl ?_
    obtain ⟨hi4, H⟩ := H
    refine r_aald (n := 15) (z := 4) (t0 := 4) (K := "OneMatch$Text") sa_15 (by decide) (fun _ => rfl) hi4 dX10_put_14 rfl (text_el hi4) (text_nz hi4) ?_
    refine r_astore (n := 17) (lv' := [(4, .ref _), (0, .ref _), (1, .int _), (2, .int _), (3, .int _)]) dX10_put_15 (by decide) rfl rfl ?_
    refine r_aload (n := 19) 0 dX10_put_17 rfl rfl ?_
    refine rs_cVi (n := 22) (rest := []) (As := []) vm_X9_isThere gw_457 (text_o (text_mem hi4)) cq_8 dX10_put_19 rfl rfl (Nat.le_of_ble_eq_true rfl) rfl (CI.mono H (fun r5 I6 X7 H => ?_))
    refine r_if_ne (n := 25) (tgt := 31) dX10_put_22 (by decide) rfl (fun c => ?_) (fun c => ?_)
    · have H := H.1 c
      refine r_aload (n := 33) 0 dX10_put_31 rfl rfl ?_
      refine r_iload_n (n := 34) 3 dX10_put_33 rfl rfl ?_
      refine rs_cVi (n := 37) (rest := []) (As := [.int _]) vm_X9_has gw_461 (text_o (text_mem hi4)) cq_8 dX10_put_34 rfl rfl (Nat.le_of_ble_eq_true rfl) rfl (CI.mono H (fun r8 I9 X10 H => ?_))
      refine r_if_ne (n := 40) (tgt := 46) dX10_put_37 (by decide) rfl (fun c => ?_) (fun c => ?_)
      · have H := H.1 c
        refine r_aload (n := 48) 0 dX10_put_46 rfl rfl ?_
        refine r_iload_n (n := 49) 3 dX10_put_48 rfl rfl ?_
        refine rs_cVi (n := 52) (rest := []) (As := [.int _]) vm_X9_get gw_465 (text_o (text_mem hi4)) cq_8 dX10_put_49 rfl rfl (Nat.le_of_ble_eq_true rfl) rfl (CI.mono H (fun r11 I12 X13 H => ?_))
        refine r_istore (n := 54) (lv' := [(5, .int _), (4, .ref _), (0, .ref _), (1, .int _), (2, .int _), (3, .int _)]) dX10_put_52 (by decide) rfl rfl ?_
        refine r_aload (n := 56) 1 dX10_put_54 rfl rfl ?_
        refine r_iload_n (n := 57) 4 dX10_put_56 rfl rfl ?_
        refine r_iload_n (n := 58) 5 dX10_put_57 rfl rfl ?_
        refine rs_cVv (n := 61) (rest := []) (As := [.int _, .int _]) vm_X9_set gw_470 (text_o (text_mem hi4)) cq_8 dX10_put_58 rfl rfl (Nat.le_of_ble_eq_true rfl) rfl (CV.mono H (fun I14 X15 H => ?_))
        refine r_iload (n := 63) 0 dX10_put_61 rfl rfl ?_
        refine r_sipush (n := 66) (v := 1000) dX10_put_63 ks_1000 rfl ?_
        refine r_iadd (n := 67) dX10_put_66 rfl ?_
        exact rs_iret dX10_put_67 rfl H
      · have H := H.2 c
        refine r_aload_n (n := 41) 1 dX10_put_40 rfl rfl ?_
        refine r_iconst (n := 42) (v := 2) dX10_put_41 ki_2 rfl ?_
        refine rs_cVi (n := 45) (rest := []) (As := [.int _]) vm_X10_found gw_378 so_1 cq_9 dX10_put_42 rfl rfl (Nat.le_of_ble_eq_true rfl) rfl (CI.mono H (fun r16 I17 X18 H => ?_))
        exact rs_iret dX10_put_45 rfl H
    · have H := H.2 c
      refine r_aload_n (n := 26) 1 dX10_put_25 rfl rfl ?_
      refine r_iconst (n := 27) (v := 1) dX10_put_26 ki_1 rfl ?_
      refine rs_cVi (n := 30) (rest := []) (As := [.int _]) vm_X10_found gw_378 so_1 cq_9 dX10_put_27 rfl rfl (Nat.le_of_ble_eq_true rfl) rfl (CI.mono H (fun r19 I20 X21 H => ?_))
      exact rs_iret dX10_put_30 rfl H
  · have H := H.2 c
    refine r_iconst (n := 8) (v := (-1)) dX10_put_7 ki_m1 rfl ?_
    exact rs_iret dX10_put_8 rfl H
set_option maxRecDepth 20000 in
theorem en_X10_fault {g : OG} {d : Nat} {I : IT} {X : XT} {K : Int32 → IT → XT → Prop} {l1 : Int32} 
    (H : CI g d iX10_isText [.int l1] I X (fun r1 I2 X3 =>
        (¬ r1 = 0 →
          vp_in l1 4 ∧
          CI g d iX9_isThere [rf g (textA l1.toNatClampNeg)] I2 X3 (fun r5 I6 X7 =>
            (¬ r5 = 0 →
              vp_in l1 4 ∧
              CI g d iX6_read [rf g 61, rf g (textA l1.toNatClampNeg), rf g 62, rf g 66] I6 X7 (fun r9 I10 X11 =>
                K r9 I10 X11)) ∧
            (r5 = 0 →
              CI g d iX10_found [rf g 1, .int 1] I6 X7 (fun r12 I13 X14 =>
                K r12 I13 X14)))) ∧
        (r1 = 0 →
          K ((-1)) I2 X3))) : CI g (d + 1) iX10_fault [rf g 1, .int l1] I X K := by
  refine ocall_of (by decide) (Nat.le_of_ble_eq_true rfl) ?_
  show SR g (d + 1) iX10_fault 0 [(0, rf g 1), (1, .int l1)] I X (qI K)
  refine r_iload_n (n := 1) 1 dX10_fault_0 rfl rfl ?_
  refine rs_cSi (n := 4) (rest := []) (As := [.int _]) sm_X10_isText gw_446 dX10_fault_1 rfl rfl (Nat.le_of_ble_eq_true rfl) rfl (CI.mono H (fun r1 I2 X3 H => ?_))
  refine r_if_ne (n := 7) (tgt := 9) dX10_fault_4 (by decide) rfl (fun c => ?_) (fun c => ?_)
  · have H := H.1 c
    refine r_aload_n (n := 10) 0 dX10_fault_9 rfl rfl ?_
    refine r_getR (n := 13) cls_9 1 fi_9_1 so_1 gw_320 dX10_fault_10 rfl sr_1_1 (by decide) ?_
    refine r_iload_n (n := 14) 1 dX10_fault_13 rfl rfl ?_
    obtain ⟨hi4, H⟩ := H
    refine r_aald (n := 15) (z := 4) (t0 := 4) (K := "OneMatch$Text") sa_15 (by decide) (fun _ => rfl) hi4 dX10_fault_14 rfl (text_el hi4) (text_nz hi4) ?_
    refine rs_cVi (n := 18) (rest := []) (As := []) vm_X9_isThere gw_457 (text_o (text_mem hi4)) cq_8 dX10_fault_15 rfl rfl (Nat.le_of_ble_eq_true rfl) rfl (CI.mono H (fun r5 I6 X7 H => ?_))
    refine r_if_ne (n := 21) (tgt := 27) dX10_fault_18 (by decide) rfl (fun c => ?_) (fun c => ?_)
    · have H := H.1 c
      refine r_aload_n (n := 28) 0 dX10_fault_27 rfl rfl ?_
      refine r_getR (n := 31) cls_9 5 fi_9_5 so_1 gw_324 dX10_fault_28 rfl sr_1_5 (by decide) ?_
      refine r_aload_n (n := 32) 0 dX10_fault_31 rfl rfl ?_
      refine r_getR (n := 35) cls_9 1 fi_9_1 so_1 gw_320 dX10_fault_32 rfl sr_1_1 (by decide) ?_
      refine r_iload_n (n := 36) 1 dX10_fault_35 rfl rfl ?_
      obtain ⟨hi8, H⟩ := H
      refine r_aald (n := 37) (z := 4) (t0 := 4) (K := "OneMatch$Text") sa_15 (by decide) (fun _ => rfl) hi8 dX10_fault_36 rfl (text_el hi8) (text_nz hi8) ?_
      refine r_aload_n (n := 38) 0 dX10_fault_37 rfl rfl ?_
      refine r_getR (n := 41) cls_9 6 fi_9_6 so_1 gw_325 dX10_fault_38 rfl sr_1_6 (by decide) ?_
      refine r_aload_n (n := 42) 0 dX10_fault_41 rfl rfl ?_
      refine r_getR (n := 45) cls_9 7 fi_9_7 so_1 gw_326 dX10_fault_42 rfl sr_1_7 (by decide) ?_
      refine rs_cVi (n := 48) (rest := []) (As := [.ref _, .ref _, .ref _]) vm_X6_read gw_478 so_61 cq_5 dX10_fault_45 rfl rfl (Nat.le_of_ble_eq_true rfl) rfl (CI.mono H (fun r9 I10 X11 H => ?_))
      exact rs_iret dX10_fault_48 rfl H
    · have H := H.2 c
      refine r_aload_n (n := 22) 0 dX10_fault_21 rfl rfl ?_
      refine r_iconst (n := 23) (v := 1) dX10_fault_22 ki_1 rfl ?_
      refine rs_cVi (n := 26) (rest := []) (As := [.int _]) vm_X10_found gw_378 so_1 cq_9 dX10_fault_23 rfl rfl (Nat.le_of_ble_eq_true rfl) rfl (CI.mono H (fun r12 I13 X14 H => ?_))
      exact rs_iret dX10_fault_26 rfl H
  · have H := H.2 c
    refine r_iconst (n := 8) (v := (-1)) dX10_fault_7 ki_m1 rfl ?_
    exact rs_iret dX10_fault_8 rfl H
set_option maxRecDepth 20000 in
theorem en_X10_village {g : OG} {d : Nat} {I : IT} {X : XT} {K : Int32 → IT → XT → Prop} {l1 : Int32} 
    (H : CI g d iX10_isText [.int l1] I X (fun r1 I2 X3 =>
        (¬ r1 = 0 →
          vp_in l1 4 ∧
          CI g d iX9_isThere [rf g (textA l1.toNatClampNeg)] I2 X3 (fun r5 I6 X7 =>
            (¬ r5 = 0 →
              vp_in l1 4 ∧
              CI g d iX6_read [rf g 61, rf g (textA l1.toNatClampNeg), rf g 62, rf g 66] I6 X7 (fun r9 I10 X11 =>
                (r9 = ((-9)) →
                  vp_in l1 4 ∧
                  CI g d iX6_read [rf g 61, rf g (textA l1.toNatClampNeg), rf g 24, rf g (28 + 2)] I10 X11 (fun r13 I14 X15 =>
                    CV g d iX0_begin [rf g 28] I14 X15 (fun I16 X17 =>
                      SR g (d + 1) iX10_village 90 [(0, rf g 1), (2, .int 0)] I16 X17 (qI K)))) ∧
                (¬ r9 = ((-9)) →
                  K ((-4)) I10 X11))) ∧
            (r5 = 0 →
              CI g d iX10_found [rf g 1, .int 1] I6 X7 (fun r18 I19 X20 =>
                K r18 I19 X20)))) ∧
        (r1 = 0 →
          K ((-1)) I2 X3))) : CI g (d + 1) iX10_village [rf g 1, .int l1] I X K := by
  refine ocall_of (by decide) (Nat.le_of_ble_eq_true rfl) ?_
  show SR g (d + 1) iX10_village 0 [(0, rf g 1), (1, .int l1)] I X (qI K)
  refine r_iload_n (n := 1) 1 dX10_village_0 rfl rfl ?_
  refine rs_cSi (n := 4) (rest := []) (As := [.int _]) sm_X10_isText gw_446 dX10_village_1 rfl rfl (Nat.le_of_ble_eq_true rfl) rfl (CI.mono H (fun r1 I2 X3 H => ?_))
  refine r_if_ne (n := 7) (tgt := 9) dX10_village_4 (by decide) rfl (fun c => ?_) (fun c => ?_)
  · have H := H.1 c
    refine r_aload_n (n := 10) 0 dX10_village_9 rfl rfl ?_
    refine r_getR (n := 13) cls_9 1 fi_9_1 so_1 gw_320 dX10_village_10 rfl sr_1_1 (by decide) ?_
    refine r_iload_n (n := 14) 1 dX10_village_13 rfl rfl ?_
    obtain ⟨hi4, H⟩ := H
    refine r_aald (n := 15) (z := 4) (t0 := 4) (K := "OneMatch$Text") sa_15 (by decide) (fun _ => rfl) hi4 dX10_village_14 rfl (text_el hi4) (text_nz hi4) ?_
    refine rs_cVi (n := 18) (rest := []) (As := []) vm_X9_isThere gw_457 (text_o (text_mem hi4)) cq_8 dX10_village_15 rfl rfl (Nat.le_of_ble_eq_true rfl) rfl (CI.mono H (fun r5 I6 X7 H => ?_))
    refine r_if_ne (n := 21) (tgt := 27) dX10_village_18 (by decide) rfl (fun c => ?_) (fun c => ?_)
    · have H := H.1 c
      refine r_aload_n (n := 28) 0 dX10_village_27 rfl rfl ?_
      refine r_getR (n := 31) cls_9 5 fi_9_5 so_1 gw_324 dX10_village_28 rfl sr_1_5 (by decide) ?_
      refine r_aload_n (n := 32) 0 dX10_village_31 rfl rfl ?_
      refine r_getR (n := 35) cls_9 1 fi_9_1 so_1 gw_320 dX10_village_32 rfl sr_1_1 (by decide) ?_
      refine r_iload_n (n := 36) 1 dX10_village_35 rfl rfl ?_
      obtain ⟨hi8, H⟩ := H
      refine r_aald (n := 37) (z := 4) (t0 := 4) (K := "OneMatch$Text") sa_15 (by decide) (fun _ => rfl) hi8 dX10_village_36 rfl (text_el hi8) (text_nz hi8) ?_
      refine r_aload_n (n := 38) 0 dX10_village_37 rfl rfl ?_
      refine r_getR (n := 41) cls_9 6 fi_9_6 so_1 gw_325 dX10_village_38 rfl sr_1_6 (by decide) ?_
      refine r_aload_n (n := 42) 0 dX10_village_41 rfl rfl ?_
      refine r_getR (n := 45) cls_9 7 fi_9_7 so_1 gw_326 dX10_village_42 rfl sr_1_7 (by decide) ?_
      refine rs_cVi (n := 48) (rest := []) (As := [.ref _, .ref _, .ref _]) vm_X6_read gw_478 so_61 cq_5 dX10_village_45 rfl rfl (Nat.le_of_ble_eq_true rfl) rfl (CI.mono H (fun r9 I10 X11 H => ?_))
      refine r_bipush (n := 50) (v := (-9)) dX10_village_48 kb_m9 rfl ?_
      refine r_icmp_eq (n := 53) (tgt := 56) dX10_village_50 (by decide) rfl (fun c => ?_) (fun c => ?_)
      · have H := H.1 c
        refine r_aload_n (n := 57) 0 dX10_village_56 rfl rfl ?_
        refine r_getR (n := 60) cls_9 5 fi_9_5 so_1 gw_324 dX10_village_57 rfl sr_1_5 (by decide) ?_
        refine r_aload_n (n := 61) 0 dX10_village_60 rfl rfl ?_
        refine r_getR (n := 64) cls_9 1 fi_9_1 so_1 gw_320 dX10_village_61 rfl sr_1_1 (by decide) ?_
        refine r_iload_n (n := 65) 1 dX10_village_64 rfl rfl ?_
        obtain ⟨hi12, H⟩ := H
        refine r_aald (n := 66) (z := 4) (t0 := 4) (K := "OneMatch$Text") sa_15 (by decide) (fun _ => rfl) hi12 dX10_village_65 rfl (text_el hi12) (text_nz hi12) ?_
        refine r_aload_n (n := 67) 0 dX10_village_66 rfl rfl ?_
        refine r_getR (n := 70) cls_9 2 fi_9_2 so_1 gw_321 dX10_village_67 rfl sr_1_2 (by decide) ?_
        refine r_aload_n (n := 71) 0 dX10_village_70 rfl rfl ?_
        refine r_getR (n := 74) cls_9 3 fi_9_3 so_1 gw_322 dX10_village_71 rfl sr_1_3 (by decide) ?_
        refine r_getR (n := 77) cls_0 0 fi_0_0 (camp_o (by decide : (28 : Nat) ∈ campL)) gw_190 dX10_village_74 rfl (camp_r0 (by decide : (28 : Nat) ∈ campL)) (camp_n0 (by decide : (28 : Nat) ∈ campL)) ?_
        refine rs_cVi (n := 80) (rest := []) (As := [.ref _, .ref _, .ref _]) vm_X6_read gw_478 so_61 cq_5 dX10_village_77 rfl rfl (Nat.le_of_ble_eq_true rfl) rfl (CI.mono H (fun r13 I14 X15 H => ?_))
        refine r_pop (n := 81) dX10_village_80 rfl rfl ?_
        refine r_aload_n (n := 82) 0 dX10_village_81 rfl rfl ?_
        refine r_getR (n := 85) cls_9 3 fi_9_3 so_1 gw_322 dX10_village_82 rfl sr_1_3 (by decide) ?_
        refine rs_cVv (n := 88) (rest := []) (As := []) vm_X0_begin gw_543 (camp_o (by decide : (28 : Nat) ∈ campL)) cq_0 dX10_village_85 rfl rfl (Nat.le_of_ble_eq_true rfl) rfl (CV.mono H (fun I16 X17 H => ?_))
        refine r_iconst (n := 89) (v := 0) dX10_village_88 ki_0 rfl ?_
        refine r_istore_n (n := 90) (lv' := [(2, .int _), (0, .ref _), (1, .int _)]) dX10_village_89 rfl (by decide) rfl rfl ?_
        exact r_sub [1, 0] rfl H
      · have H := H.2 c
        refine r_bipush (n := 55) (v := (-4)) dX10_village_53 kb_m4 rfl ?_
        exact rs_iret dX10_village_55 rfl H
    · have H := H.2 c
      refine r_aload_n (n := 22) 0 dX10_village_21 rfl rfl ?_
      refine r_iconst (n := 23) (v := 1) dX10_village_22 ki_1 rfl ?_
      refine rs_cVi (n := 26) (rest := []) (As := [.int _]) vm_X10_found gw_378 so_1 cq_9 dX10_village_23 rfl rfl (Nat.le_of_ble_eq_true rfl) rfl (CI.mono H (fun r18 I19 X20 H => ?_))
      exact rs_iret dX10_village_26 rfl H
  · have H := H.2 c
    refine r_iconst (n := 8) (v := (-1)) dX10_village_7 ki_m1 rfl ?_
    exact rs_iret dX10_village_8 rfl H
set_option maxRecDepth 20000 in
theorem rg_X10_village_90 {g : OG} {d : Nat} {I : IT} {X : XT} {K : Int32 → IT → XT → Prop} {l2 : Int32} 
    (H : (3 ≤ l2 →
        K (I 24 4) I X) ∧
      (¬ 3 ≤ l2 →
        vp_in l2 3 ∧
        CV g d iX0_leave [rf g (keptA l2.toNatClampNeg)] I X (fun I2 X3 =>
          ∀ x4 : Int32, x4 = l2 + 1 →
          SR g (d + 1) iX10_village 90 [(0, rf g 1), (2, .int x4)] I2 X3 (qI K)))) : SR g (d + 1) iX10_village 90 [(0, rf g 1), (2, .int l2)] I X (qI K) := by
  refine r_iload_n (n := 91) 1 dX10_village_90 rfl rfl ?_
  refine r_iconst (n := 92) (v := 3) dX10_village_91 ki_3 rfl ?_
  refine r_icmp_ge (n := 95) (tgt := 110) dX10_village_92 (by decide) rfl (fun c => ?_) (fun c => ?_)
  · have H := H.1 c
    refine r_aload_n (n := 111) 0 dX10_village_110 rfl rfl ?_
    refine r_getR (n := 114) cls_9 2 fi_9_2 so_1 gw_321 dX10_village_111 rfl sr_1_2 (by decide) ?_
    refine rs_getI (n := 117) cls_2 4 fi_2_4 (lane_o (by decide : (24 : Nat) ∈ laneL)) gw_138 dX10_village_114 rfl ?_
    exact rs_iret dX10_village_117 rfl H
  · have H := H.2 c
    refine r_aload_n (n := 96) 0 dX10_village_95 rfl rfl ?_
    refine r_getR (n := 99) cls_9 4 fi_9_4 so_1 gw_323 dX10_village_96 rfl sr_1_4 (by decide) ?_
    refine r_iload_n (n := 100) 1 dX10_village_99 rfl rfl ?_
    obtain ⟨hi1, H⟩ := H
    refine r_aald (n := 101) (z := 3) (t0 := 5) (K := "OneMatch$Campaign") sa_36 (by decide) (fun _ => rfl) hi1 dX10_village_100 rfl (kept_el hi1) (kept_nz hi1) ?_
    refine rs_cVv (n := 104) (rest := []) (As := []) vm_X0_leave gw_551 (camp_o (kept_mem hi1)) cq_0 dX10_village_101 rfl rfl (Nat.le_of_ble_eq_true rfl) rfl (CV.mono H (fun I2 X3 H => ?_))
    have H := H _ rfl
    refine r_iinc (n := 107) (lv' := [(2, .int _), (0, .ref _)]) 1 dX10_village_104 rfl rfl (by decide) rfl rfl ?_
    refine r_goto (n := 90) dX10_village_107 (by decide) ?_
    exact r_sub [1, 0] rfl H
set_option maxRecDepth 20000 in
theorem en_X10_house {g : OG} {d : Nat} {I : IT} {X : XT} {K : Int32 → IT → XT → Prop} {l1 : Int32} {l2 : Int32} 
    (H : CI g d iX3_has [rf g 24, .int l1] I X (fun r1 I2 X3 =>
        (r1 = 0 →
          K ((-1)) I2 X3) ∧
        (¬ r1 = 0 →
          (l2 < 0 →
            K ((-1)) I2 X3) ∧
          (¬ l2 < 0 →
            (l2 < 6 →
              CI g d iX10_factOf [rf g 1, .int l1, .int l2] I2 X3 (fun r4 I5 X6 =>
                ∀ I7 : IT, I7 = set2 I5 1 14 r4 →
                K 1 I7 X6)) ∧
            (¬ l2 < 6 →
              K ((-1)) I2 X3))))) : CI g (d + 1) iX10_house [rf g 1, .int l1, .int l2] I X K := by
  refine ocall_of (by decide) (Nat.le_of_ble_eq_true rfl) ?_
  show SR g (d + 1) iX10_house 0 [(0, rf g 1), (1, .int l1), (2, .int l2)] I X (qI K)
  refine r_aload_n (n := 1) 0 dX10_house_0 rfl rfl ?_
  refine r_getR (n := 4) cls_9 2 fi_9_2 so_1 gw_321 dX10_house_1 rfl sr_1_2 (by decide) ?_
  refine r_iload_n (n := 5) 1 dX10_house_4 rfl rfl ?_
  refine rs_cVi (n := 8) (rest := []) (As := [.int _]) vm_X3_has gw_559 (lane_o (by decide : (24 : Nat) ∈ laneL)) cq_2 dX10_house_5 rfl rfl (Nat.le_of_ble_eq_true rfl) rfl (CI.mono H (fun r1 I2 X3 H => ?_))
  refine r_if_eq (n := 11) (tgt := 21) dX10_house_8 (by decide) rfl (fun c => ?_) (fun c => ?_)
  · have H := H.1 c
    refine r_iconst (n := 22) (v := (-1)) dX10_house_21 ki_m1 rfl ?_
    exact rs_iret dX10_house_22 rfl H
  · have H := H.2 c
    refine r_iload_n (n := 12) 2 dX10_house_11 rfl rfl ?_
    refine r_if_lt (n := 15) (tgt := 21) dX10_house_12 (by decide) rfl (fun c => ?_) (fun c => ?_)
    · have H := H.1 c
      refine r_iconst (n := 22) (v := (-1)) dX10_house_21 ki_m1 rfl ?_
      exact rs_iret dX10_house_22 rfl H
    · have H := H.2 c
      refine r_iload_n (n := 16) 2 dX10_house_15 rfl rfl ?_
      refine r_bipush (n := 18) (v := 6) dX10_house_16 kb_6 rfl ?_
      refine r_icmp_lt (n := 21) (tgt := 23) dX10_house_18 (by decide) rfl (fun c => ?_) (fun c => ?_)
      · have H := H.1 c
        refine r_aload_n (n := 24) 0 dX10_house_23 rfl rfl ?_
        refine r_aload_n (n := 25) 0 dX10_house_24 rfl rfl ?_
        refine r_iload_n (n := 26) 1 dX10_house_25 rfl rfl ?_
        refine r_iload_n (n := 27) 2 dX10_house_26 rfl rfl ?_
        refine rs_cVi (n := 30) (rest := [.ref _]) (As := [.int _, .int _]) vm_X10_factOf gw_563 so_1 cq_9 dX10_house_27 rfl rfl (Nat.le_of_ble_eq_true rfl) rfl (CI.mono H (fun r4 I5 X6 H => ?_))
        have H := H _ rfl
        refine rs_putI (n := 33) cls_9 14 fp_9_14 so_1 gw_333 dX10_house_30 rfl ?_
        refine r_iconst (n := 34) (v := 1) dX10_house_33 ki_1 rfl ?_
        exact rs_iret dX10_house_34 rfl H
      · have H := H.2 c
        refine r_iconst (n := 22) (v := (-1)) dX10_house_21 ki_m1 rfl ?_
        exact rs_iret dX10_house_22 rfl H
set_option maxRecDepth 20000 in
theorem en_X10_wind {g : OG} {d : Nat} {I : IT} {X : XT} {K : Int32 → IT → XT → Prop} {l1 : Int32} 
    (H : (l1 < 0 →
        K ((-1)) I X) ∧
      (¬ l1 < 0 →
        (l1 ≤ 999 →
          CI g d iX3_isEmpty [rf g 24] I X (fun r1 I2 X3 =>
            (r1 = 0 →
              CI g d iX3_windAt [rf g 24, .int l1] I2 X3 (fun r4 I5 X6 =>
                K r4 I5 X6)) ∧
            (¬ r1 = 0 →
              K ((-4)) I2 X3))) ∧
        (¬ l1 ≤ 999 →
          K ((-1)) I X))) : CI g (d + 1) iX10_wind [rf g 1, .int l1] I X K := by
  refine ocall_of (by decide) (Nat.le_of_ble_eq_true rfl) ?_
  show SR g (d + 1) iX10_wind 0 [(0, rf g 1), (1, .int l1)] I X (qI K)
  refine r_iload_n (n := 1) 1 dX10_wind_0 rfl rfl ?_
  refine r_if_lt (n := 4) (tgt := 11) dX10_wind_1 (by decide) rfl (fun c => ?_) (fun c => ?_)
  · have H := H.1 c
    refine r_iconst (n := 12) (v := (-1)) dX10_wind_11 ki_m1 rfl ?_
    exact rs_iret dX10_wind_12 rfl H
  · have H := H.2 c
    refine r_iload_n (n := 5) 1 dX10_wind_4 rfl rfl ?_
    refine r_sipush (n := 8) (v := 999) dX10_wind_5 ks_999 rfl ?_
    refine r_icmp_le (n := 11) (tgt := 13) dX10_wind_8 (by decide) rfl (fun c => ?_) (fun c => ?_)
    · have H := H.1 c
      refine r_aload_n (n := 14) 0 dX10_wind_13 rfl rfl ?_
      refine r_getR (n := 17) cls_9 2 fi_9_2 so_1 gw_321 dX10_wind_14 rfl sr_1_2 (by decide) ?_
      refine rs_cVi (n := 20) (rest := []) (As := []) vm_X3_isEmpty gw_600 (lane_o (by decide : (24 : Nat) ∈ laneL)) cq_2 dX10_wind_17 rfl rfl (Nat.le_of_ble_eq_true rfl) rfl (CI.mono H (fun r1 I2 X3 H => ?_))
      refine r_if_eq (n := 23) (tgt := 26) dX10_wind_20 (by decide) rfl (fun c => ?_) (fun c => ?_)
      · have H := H.1 c
        refine r_aload_n (n := 27) 0 dX10_wind_26 rfl rfl ?_
        refine r_getR (n := 30) cls_9 2 fi_9_2 so_1 gw_321 dX10_wind_27 rfl sr_1_2 (by decide) ?_
        refine r_iload_n (n := 31) 1 dX10_wind_30 rfl rfl ?_
        refine rs_cVi (n := 34) (rest := []) (As := [.int _]) vm_X3_windAt gw_601 (lane_o (by decide : (24 : Nat) ∈ laneL)) cq_2 dX10_wind_31 rfl rfl (Nat.le_of_ble_eq_true rfl) rfl (CI.mono H (fun r4 I5 X6 H => ?_))
        exact rs_iret dX10_wind_34 rfl H
      · have H := H.2 c
        refine r_bipush (n := 25) (v := (-4)) dX10_wind_23 kb_m4 rfl ?_
        exact rs_iret dX10_wind_25 rfl H
    · have H := H.2 c
      refine r_iconst (n := 12) (v := (-1)) dX10_wind_11 ki_m1 rfl ?_
      exact rs_iret dX10_wind_12 rfl H
set_option maxRecDepth 20000 in
theorem en_X10_mark {g : OG} {d : Nat} {I : IT} {X : XT} {K : Int32 → IT → XT → Prop} {l1 : Int32} {l2 : Int32} 
    (H : CI g d iX3_has [rf g 24, .int l1] I X (fun r1 I2 X3 =>
        (r1 = 0 →
          K ((-1)) I2 X3) ∧
        (¬ r1 = 0 →
          (l2 < 1 →
            K ((-1)) I2 X3) ∧
          (¬ l2 < 1 →
            (l2 ≤ 5 →
              CI g d iX3_kindOf [rf g 24, .int l1] I2 X3 (fun r4 I5 X6 =>
                CI g d iX2_isOf [.int r4, .int l2] I5 X6 (fun r7 I8 X9 =>
                  (¬ r7 = 0 →
                    CI g d iX10_markOf [rf g 1, .int l1, .int l2] I8 X9 (fun r10 I11 X12 =>
                      K r10 I11 X12)) ∧
                  (r7 = 0 →
                    CI g d iX10_found [rf g 1, .int 3] I8 X9 (fun r13 I14 X15 =>
                      K r13 I14 X15))))) ∧
            (¬ l2 ≤ 5 →
              K ((-1)) I2 X3))))) : CI g (d + 1) iX10_mark [rf g 1, .int l1, .int l2] I X K := by
  refine ocall_of (by decide) (Nat.le_of_ble_eq_true rfl) ?_
  show SR g (d + 1) iX10_mark 0 [(0, rf g 1), (1, .int l1), (2, .int l2)] I X (qI K)
  refine r_aload_n (n := 1) 0 dX10_mark_0 rfl rfl ?_
  refine r_getR (n := 4) cls_9 2 fi_9_2 so_1 gw_321 dX10_mark_1 rfl sr_1_2 (by decide) ?_
  refine r_iload_n (n := 5) 1 dX10_mark_4 rfl rfl ?_
  refine rs_cVi (n := 8) (rest := []) (As := [.int _]) vm_X3_has gw_559 (lane_o (by decide : (24 : Nat) ∈ laneL)) cq_2 dX10_mark_5 rfl rfl (Nat.le_of_ble_eq_true rfl) rfl (CI.mono H (fun r1 I2 X3 H => ?_))
  refine r_if_eq (n := 11) (tgt := 21) dX10_mark_8 (by decide) rfl (fun c => ?_) (fun c => ?_)
  · have H := H.1 c
    refine r_iconst (n := 22) (v := (-1)) dX10_mark_21 ki_m1 rfl ?_
    exact rs_iret dX10_mark_22 rfl H
  · have H := H.2 c
    refine r_iload_n (n := 12) 2 dX10_mark_11 rfl rfl ?_
    refine r_iconst (n := 13) (v := 1) dX10_mark_12 ki_1 rfl ?_
    refine r_icmp_lt (n := 16) (tgt := 21) dX10_mark_13 (by decide) rfl (fun c => ?_) (fun c => ?_)
    · have H := H.1 c
      refine r_iconst (n := 22) (v := (-1)) dX10_mark_21 ki_m1 rfl ?_
      exact rs_iret dX10_mark_22 rfl H
    · have H := H.2 c
      refine r_iload_n (n := 17) 2 dX10_mark_16 rfl rfl ?_
      refine r_iconst (n := 18) (v := 5) dX10_mark_17 ki_5 rfl ?_
      refine r_icmp_le (n := 21) (tgt := 23) dX10_mark_18 (by decide) rfl (fun c => ?_) (fun c => ?_)
      · have H := H.1 c
        refine r_aload_n (n := 24) 0 dX10_mark_23 rfl rfl ?_
        refine r_getR (n := 27) cls_9 2 fi_9_2 so_1 gw_321 dX10_mark_24 rfl sr_1_2 (by decide) ?_
        refine r_iload_n (n := 28) 1 dX10_mark_27 rfl rfl ?_
        refine rs_cVi (n := 31) (rest := []) (As := [.int _]) vm_X3_kindOf gw_567 (lane_o (by decide : (24 : Nat) ∈ laneL)) cq_2 dX10_mark_28 rfl rfl (Nat.le_of_ble_eq_true rfl) rfl (CI.mono H (fun r4 I5 X6 H => ?_))
        refine r_iload_n (n := 32) 2 dX10_mark_31 rfl rfl ?_
        refine rs_cSi (n := 35) (rest := []) (As := [.int _, .int _]) sm_X2_isOf gw_610 dX10_mark_32 rfl rfl (Nat.le_of_ble_eq_true rfl) rfl (CI.mono H (fun r7 I8 X9 H => ?_))
        refine r_if_ne (n := 38) (tgt := 44) dX10_mark_35 (by decide) rfl (fun c => ?_) (fun c => ?_)
        · have H := H.1 c
          refine r_aload_n (n := 45) 0 dX10_mark_44 rfl rfl ?_
          refine r_iload_n (n := 46) 1 dX10_mark_45 rfl rfl ?_
          refine r_iload_n (n := 47) 2 dX10_mark_46 rfl rfl ?_
          refine rs_cVi (n := 50) (rest := []) (As := [.int _, .int _]) vm_X10_markOf gw_613 so_1 cq_9 dX10_mark_47 rfl rfl (Nat.le_of_ble_eq_true rfl) rfl (CI.mono H (fun r10 I11 X12 H => ?_))
          exact rs_iret dX10_mark_50 rfl H
        · have H := H.2 c
          refine r_aload_n (n := 39) 0 dX10_mark_38 rfl rfl ?_
          refine r_iconst (n := 40) (v := 3) dX10_mark_39 ki_3 rfl ?_
          refine rs_cVi (n := 43) (rest := []) (As := [.int _]) vm_X10_found gw_378 so_1 cq_9 dX10_mark_40 rfl rfl (Nat.le_of_ble_eq_true rfl) rfl (CI.mono H (fun r13 I14 X15 H => ?_))
          exact rs_iret dX10_mark_43 rfl H
      · have H := H.2 c
        refine r_iconst (n := 22) (v := (-1)) dX10_mark_21 ki_m1 rfl ?_
        exact rs_iret dX10_mark_22 rfl H
set_option maxRecDepth 20000 in
theorem en_X10_stack {g : OG} {d : Nat} {I : IT} {X : XT} {K : Int32 → IT → XT → Prop} {l1 : Int32} {l2 : Int32} 
    (H : CI g d iX3_has [rf g 24, .int l1] I X (fun r1 I2 X3 =>
        (r1 = 0 →
          K ((-1)) I2 X3) ∧
        (¬ r1 = 0 →
          (l2 < 0 →
            K ((-1)) I2 X3) ∧
          (¬ l2 < 0 →
            (l2 ≤ 9 →
              ((I2 28 3) ≤ 0 →
                CI g d iX1_woodOf [rf g (28 + 5), .int l1] I2 X3 (fun r4 I5 X6 =>
                  CV g d iX0_restack [rf g 28, .int l1, .int l2] I5 X6 (fun I7 X8 =>
                    K r4 I7 X8))) ∧
              (¬ (I2 28 3) ≤ 0 →
                K ((-4)) I2 X3)) ∧
            (¬ l2 ≤ 9 →
              K ((-1)) I2 X3))))) : CI g (d + 1) iX10_stack [rf g 1, .int l1, .int l2] I X K := by
  refine ocall_of (by decide) (Nat.le_of_ble_eq_true rfl) ?_
  show SR g (d + 1) iX10_stack 0 [(0, rf g 1), (1, .int l1), (2, .int l2)] I X (qI K)
  refine r_aload_n (n := 1) 0 dX10_stack_0 rfl rfl ?_
  refine r_getR (n := 4) cls_9 2 fi_9_2 so_1 gw_321 dX10_stack_1 rfl sr_1_2 (by decide) ?_
  refine r_iload_n (n := 5) 1 dX10_stack_4 rfl rfl ?_
  refine rs_cVi (n := 8) (rest := []) (As := [.int _]) vm_X3_has gw_559 (lane_o (by decide : (24 : Nat) ∈ laneL)) cq_2 dX10_stack_5 rfl rfl (Nat.le_of_ble_eq_true rfl) rfl (CI.mono H (fun r1 I2 X3 H => ?_))
  refine r_if_eq (n := 11) (tgt := 21) dX10_stack_8 (by decide) rfl (fun c => ?_) (fun c => ?_)
  · have H := H.1 c
    refine r_iconst (n := 22) (v := (-1)) dX10_stack_21 ki_m1 rfl ?_
    exact rs_iret dX10_stack_22 rfl H
  · have H := H.2 c
    refine r_iload_n (n := 12) 2 dX10_stack_11 rfl rfl ?_
    refine r_if_lt (n := 15) (tgt := 21) dX10_stack_12 (by decide) rfl (fun c => ?_) (fun c => ?_)
    · have H := H.1 c
      refine r_iconst (n := 22) (v := (-1)) dX10_stack_21 ki_m1 rfl ?_
      exact rs_iret dX10_stack_22 rfl H
    · have H := H.2 c
      refine r_iload_n (n := 16) 2 dX10_stack_15 rfl rfl ?_
      refine r_bipush (n := 18) (v := 9) dX10_stack_16 kb_9 rfl ?_
      refine r_icmp_le (n := 21) (tgt := 23) dX10_stack_18 (by decide) rfl (fun c => ?_) (fun c => ?_)
      · have H := H.1 c
        refine r_aload_n (n := 24) 0 dX10_stack_23 rfl rfl ?_
        refine r_getR (n := 27) cls_9 3 fi_9_3 so_1 gw_322 dX10_stack_24 rfl sr_1_3 (by decide) ?_
        refine rs_getI (n := 30) cls_0 3 fi_0_3 (camp_o (by decide : (28 : Nat) ∈ campL)) gw_195 dX10_stack_27 rfl ?_
        refine r_if_le (n := 33) (tgt := 36) dX10_stack_30 (by decide) rfl (fun c => ?_) (fun c => ?_)
        · have H := H.1 c
          refine r_aload_n (n := 37) 0 dX10_stack_36 rfl rfl ?_
          refine r_getR (n := 40) cls_9 3 fi_9_3 so_1 gw_322 dX10_stack_37 rfl sr_1_3 (by decide) ?_
          refine r_getR (n := 43) cls_0 1 fi_0_1 (camp_o (by decide : (28 : Nat) ∈ campL)) gw_192 dX10_stack_40 rfl (camp_r1 (by decide : (28 : Nat) ∈ campL)) (camp_n1 (by decide : (28 : Nat) ∈ campL)) ?_
          refine r_iload_n (n := 44) 1 dX10_stack_43 rfl rfl ?_
          refine rs_cVi (n := 47) (rest := []) (As := [.int _]) vm_X1_woodOf gw_572 (fire_o (camp_now (by decide : (28 : Nat) ∈ campL))) cq_1 dX10_stack_44 rfl rfl (Nat.le_of_ble_eq_true rfl) rfl (CI.mono H (fun r4 I5 X6 H => ?_))
          refine r_istore_n (n := 48) (lv' := [(3, .int _), (0, .ref _), (1, .int _), (2, .int _)]) dX10_stack_47 rfl (by decide) rfl rfl ?_
          refine r_aload_n (n := 49) 1 dX10_stack_48 rfl rfl ?_
          refine r_getR (n := 52) cls_9 3 fi_9_3 so_1 gw_322 dX10_stack_49 rfl sr_1_3 (by decide) ?_
          refine r_iload_n (n := 53) 2 dX10_stack_52 rfl rfl ?_
          refine r_iload_n (n := 54) 3 dX10_stack_53 rfl rfl ?_
          refine rs_cVv (n := 57) (rest := []) (As := [.int _, .int _]) vm_X0_restack gw_635 (camp_o (by decide : (28 : Nat) ∈ campL)) cq_0 dX10_stack_54 rfl rfl (Nat.le_of_ble_eq_true rfl) rfl (CV.mono H (fun I7 X8 H => ?_))
          refine r_iload_n (n := 58) 0 dX10_stack_57 rfl rfl ?_
          exact rs_iret dX10_stack_58 rfl H
        · have H := H.2 c
          refine r_bipush (n := 35) (v := (-4)) dX10_stack_33 kb_m4 rfl ?_
          exact rs_iret dX10_stack_35 rfl H
      · have H := H.2 c
        refine r_iconst (n := 22) (v := (-1)) dX10_stack_21 ki_m1 rfl ?_
        exact rs_iret dX10_stack_22 rfl H
set_option maxRecDepth 20000 in
theorem en_X10_strike {g : OG} {d : Nat} {I : IT} {X : XT} {K : Int32 → IT → XT → Prop} {l1 : Int32} 
    (H : CI g d iX3_has [rf g 24, .int l1] I X (fun r1 I2 X3 =>
        (¬ r1 = 0 →
          CI g d iX1_canStrike [rf g (28 + 5), .int l1] I2 X3 (fun r4 I5 X6 =>
            (¬ r4 = 0 →
              CI g d iX0_hasRoom [rf g 28, .int 1] I5 X6 (fun r7 I8 X9 =>
                (¬ r7 = 0 →
                  CV g d iX0_act [rf g 28, .int (40 + l1)] I8 X9 (fun I10 X11 =>
                    K 1 I10 X11)) ∧
                (r7 = 0 →
                  K ((-2)) I8 X9))) ∧
            (r4 = 0 →
              K ((-4)) I5 X6))) ∧
        (r1 = 0 →
          K ((-1)) I2 X3))) : CI g (d + 1) iX10_strike [rf g 1, .int l1] I X K := by
  refine ocall_of (by decide) (Nat.le_of_ble_eq_true rfl) ?_
  show SR g (d + 1) iX10_strike 0 [(0, rf g 1), (1, .int l1)] I X (qI K)
  refine r_aload_n (n := 1) 0 dX10_strike_0 rfl rfl ?_
  refine r_getR (n := 4) cls_9 2 fi_9_2 so_1 gw_321 dX10_strike_1 rfl sr_1_2 (by decide) ?_
  refine r_iload_n (n := 5) 1 dX10_strike_4 rfl rfl ?_
  refine rs_cVi (n := 8) (rest := []) (As := [.int _]) vm_X3_has gw_559 (lane_o (by decide : (24 : Nat) ∈ laneL)) cq_2 dX10_strike_5 rfl rfl (Nat.le_of_ble_eq_true rfl) rfl (CI.mono H (fun r1 I2 X3 H => ?_))
  refine r_if_ne (n := 11) (tgt := 13) dX10_strike_8 (by decide) rfl (fun c => ?_) (fun c => ?_)
  · have H := H.1 c
    refine r_aload_n (n := 14) 0 dX10_strike_13 rfl rfl ?_
    refine r_getR (n := 17) cls_9 3 fi_9_3 so_1 gw_322 dX10_strike_14 rfl sr_1_3 (by decide) ?_
    refine r_getR (n := 20) cls_0 1 fi_0_1 (camp_o (by decide : (28 : Nat) ∈ campL)) gw_192 dX10_strike_17 rfl (camp_r1 (by decide : (28 : Nat) ∈ campL)) (camp_n1 (by decide : (28 : Nat) ∈ campL)) ?_
    refine r_iload_n (n := 21) 1 dX10_strike_20 rfl rfl ?_
    refine rs_cVi (n := 24) (rest := []) (As := [.int _]) vm_X1_canStrike gw_645 (fire_o (camp_now (by decide : (28 : Nat) ∈ campL))) cq_1 dX10_strike_21 rfl rfl (Nat.le_of_ble_eq_true rfl) rfl (CI.mono H (fun r4 I5 X6 H => ?_))
    refine r_if_ne (n := 27) (tgt := 30) dX10_strike_24 (by decide) rfl (fun c => ?_) (fun c => ?_)
    · have H := H.1 c
      refine r_aload_n (n := 31) 0 dX10_strike_30 rfl rfl ?_
      refine r_getR (n := 34) cls_9 3 fi_9_3 so_1 gw_322 dX10_strike_31 rfl sr_1_3 (by decide) ?_
      refine r_iconst (n := 35) (v := 1) dX10_strike_34 ki_1 rfl ?_
      refine rs_cVi (n := 38) (rest := []) (As := [.int _]) vm_X0_hasRoom gw_650 (camp_o (by decide : (28 : Nat) ∈ campL)) cq_0 dX10_strike_35 rfl rfl (Nat.le_of_ble_eq_true rfl) rfl (CI.mono H (fun r7 I8 X9 H => ?_))
      refine r_if_ne (n := 41) (tgt := 44) dX10_strike_38 (by decide) rfl (fun c => ?_) (fun c => ?_)
      · have H := H.1 c
        refine r_aload_n (n := 45) 0 dX10_strike_44 rfl rfl ?_
        refine r_getR (n := 48) cls_9 3 fi_9_3 so_1 gw_322 dX10_strike_45 rfl sr_1_3 (by decide) ?_
        refine r_bipush (n := 50) (v := 40) dX10_strike_48 kb_40 rfl ?_
        refine r_iload_n (n := 51) 1 dX10_strike_50 rfl rfl ?_
        refine r_iadd (n := 52) dX10_strike_51 rfl ?_
        refine rs_cVv (n := 55) (rest := []) (As := [.int _]) vm_X0_act gw_654 (camp_o (by decide : (28 : Nat) ∈ campL)) cq_0 dX10_strike_52 rfl rfl (Nat.le_of_ble_eq_true rfl) rfl (CV.mono H (fun I10 X11 H => ?_))
        refine r_iconst (n := 56) (v := 1) dX10_strike_55 ki_1 rfl ?_
        exact rs_iret dX10_strike_56 rfl H
      · have H := H.2 c
        refine r_bipush (n := 43) (v := (-2)) dX10_strike_41 kb_m2 rfl ?_
        exact rs_iret dX10_strike_43 rfl H
    · have H := H.2 c
      refine r_bipush (n := 29) (v := (-4)) dX10_strike_27 kb_m4 rfl ?_
      exact rs_iret dX10_strike_29 rfl H
  · have H := H.2 c
    refine r_iconst (n := 12) (v := (-1)) dX10_strike_11 ki_m1 rfl ?_
    exact rs_iret dX10_strike_12 rfl H
set_option maxRecDepth 20000 in
theorem en_X10_carry {g : OG} {d : Nat} {I : IT} {X : XT} {K : Int32 → IT → XT → Prop} {l1 : Int32} {l2 : Int32} 
    (H : CI g d iX3_has [rf g 24, .int l1] I X (fun r1 I2 X3 =>
        (r1 = 0 →
          K ((-1)) I2 X3) ∧
        (¬ r1 = 0 →
          CI g d iX3_has [rf g 24, .int l2] I2 X3 (fun r4 I5 X6 =>
            (r4 = 0 →
              K ((-1)) I5 X6) ∧
            (¬ r4 = 0 →
              (¬ l1 = l2 →
                CI g d iX1_canCarry [rf g (28 + 5), .int l1, .int l2] I5 X6 (fun r7 I8 X9 =>
                  (¬ r7 = 0 →
                    CI g d iX0_hasRoom [rf g 28, .int 1] I8 X9 (fun r10 I11 X12 =>
                      (¬ r10 = 0 →
                        CV g d iX0_act [rf g 28, .int ((6 * l1) + l2)] I11 X12 (fun I13 X14 =>
                          CI g d iX1_alight [rf g (28 + 5)] I13 X14 (fun r15 I16 X17 =>
                            K r15 I16 X17))) ∧
                      (r10 = 0 →
                        K ((-2)) I11 X12))) ∧
                  (r7 = 0 →
                    K ((-4)) I8 X9))) ∧
              (l1 = l2 →
                K ((-1)) I5 X6)))))) : CI g (d + 1) iX10_carry [rf g 1, .int l1, .int l2] I X K := by
  refine ocall_of (by decide) (Nat.le_of_ble_eq_true rfl) ?_
  show SR g (d + 1) iX10_carry 0 [(0, rf g 1), (1, .int l1), (2, .int l2)] I X (qI K)
  refine r_aload_n (n := 1) 0 dX10_carry_0 rfl rfl ?_
  refine r_getR (n := 4) cls_9 2 fi_9_2 so_1 gw_321 dX10_carry_1 rfl sr_1_2 (by decide) ?_
  refine r_iload_n (n := 5) 1 dX10_carry_4 rfl rfl ?_
  refine rs_cVi (n := 8) (rest := []) (As := [.int _]) vm_X3_has gw_559 (lane_o (by decide : (24 : Nat) ∈ laneL)) cq_2 dX10_carry_5 rfl rfl (Nat.le_of_ble_eq_true rfl) rfl (CI.mono H (fun r1 I2 X3 H => ?_))
  refine r_if_eq (n := 11) (tgt := 27) dX10_carry_8 (by decide) rfl (fun c => ?_) (fun c => ?_)
  · have H := H.1 c
    refine r_iconst (n := 28) (v := (-1)) dX10_carry_27 ki_m1 rfl ?_
    exact rs_iret dX10_carry_28 rfl H
  · have H := H.2 c
    refine r_aload_n (n := 12) 0 dX10_carry_11 rfl rfl ?_
    refine r_getR (n := 15) cls_9 2 fi_9_2 so_1 gw_321 dX10_carry_12 rfl sr_1_2 (by decide) ?_
    refine r_iload_n (n := 16) 2 dX10_carry_15 rfl rfl ?_
    refine rs_cVi (n := 19) (rest := []) (As := [.int _]) vm_X3_has gw_559 (lane_o (by decide : (24 : Nat) ∈ laneL)) cq_2 dX10_carry_16 rfl rfl (Nat.le_of_ble_eq_true rfl) rfl (CI.mono H (fun r4 I5 X6 H => ?_))
    refine r_if_eq (n := 22) (tgt := 27) dX10_carry_19 (by decide) rfl (fun c => ?_) (fun c => ?_)
    · have H := H.1 c
      refine r_iconst (n := 28) (v := (-1)) dX10_carry_27 ki_m1 rfl ?_
      exact rs_iret dX10_carry_28 rfl H
    · have H := H.2 c
      refine r_iload_n (n := 23) 1 dX10_carry_22 rfl rfl ?_
      refine r_iload_n (n := 24) 2 dX10_carry_23 rfl rfl ?_
      refine r_icmp_ne (n := 27) (tgt := 29) dX10_carry_24 (by decide) rfl (fun c => ?_) (fun c => ?_)
      · have H := H.1 c
        refine r_aload_n (n := 30) 0 dX10_carry_29 rfl rfl ?_
        refine r_getR (n := 33) cls_9 3 fi_9_3 so_1 gw_322 dX10_carry_30 rfl sr_1_3 (by decide) ?_
        refine r_getR (n := 36) cls_0 1 fi_0_1 (camp_o (by decide : (28 : Nat) ∈ campL)) gw_192 dX10_carry_33 rfl (camp_r1 (by decide : (28 : Nat) ∈ campL)) (camp_n1 (by decide : (28 : Nat) ∈ campL)) ?_
        refine r_iload_n (n := 37) 1 dX10_carry_36 rfl rfl ?_
        refine r_iload_n (n := 38) 2 dX10_carry_37 rfl rfl ?_
        refine rs_cVi (n := 41) (rest := []) (As := [.int _, .int _]) vm_X1_canCarry gw_688 (fire_o (camp_now (by decide : (28 : Nat) ∈ campL))) cq_1 dX10_carry_38 rfl rfl (Nat.le_of_ble_eq_true rfl) rfl (CI.mono H (fun r7 I8 X9 H => ?_))
        refine r_if_ne (n := 44) (tgt := 47) dX10_carry_41 (by decide) rfl (fun c => ?_) (fun c => ?_)
        · have H := H.1 c
          refine r_aload_n (n := 48) 0 dX10_carry_47 rfl rfl ?_
          refine r_getR (n := 51) cls_9 3 fi_9_3 so_1 gw_322 dX10_carry_48 rfl sr_1_3 (by decide) ?_
          refine r_iconst (n := 52) (v := 1) dX10_carry_51 ki_1 rfl ?_
          refine rs_cVi (n := 55) (rest := []) (As := [.int _]) vm_X0_hasRoom gw_650 (camp_o (by decide : (28 : Nat) ∈ campL)) cq_0 dX10_carry_52 rfl rfl (Nat.le_of_ble_eq_true rfl) rfl (CI.mono H (fun r10 I11 X12 H => ?_))
          refine r_if_ne (n := 58) (tgt := 61) dX10_carry_55 (by decide) rfl (fun c => ?_) (fun c => ?_)
          · have H := H.1 c
            refine r_aload_n (n := 62) 0 dX10_carry_61 rfl rfl ?_
            refine r_getR (n := 65) cls_9 3 fi_9_3 so_1 gw_322 dX10_carry_62 rfl sr_1_3 (by decide) ?_
            refine r_bipush (n := 67) (v := 6) dX10_carry_65 kb_6 rfl ?_
            refine r_iload_n (n := 68) 1 dX10_carry_67 rfl rfl ?_
            refine r_imul (n := 69) dX10_carry_68 rfl ?_
            refine r_iload_n (n := 70) 2 dX10_carry_69 rfl rfl ?_
            refine r_iadd (n := 71) dX10_carry_70 rfl ?_
            refine rs_cVv (n := 74) (rest := []) (As := [.int _]) vm_X0_act gw_654 (camp_o (by decide : (28 : Nat) ∈ campL)) cq_0 dX10_carry_71 rfl rfl (Nat.le_of_ble_eq_true rfl) rfl (CV.mono H (fun I13 X14 H => ?_))
            refine r_aload_n (n := 75) 0 dX10_carry_74 rfl rfl ?_
            refine r_getR (n := 78) cls_9 3 fi_9_3 so_1 gw_322 dX10_carry_75 rfl sr_1_3 (by decide) ?_
            refine r_getR (n := 81) cls_0 1 fi_0_1 (camp_o (by decide : (28 : Nat) ∈ campL)) gw_192 dX10_carry_78 rfl (camp_r1 (by decide : (28 : Nat) ∈ campL)) (camp_n1 (by decide : (28 : Nat) ∈ campL)) ?_
            refine rs_cVi (n := 84) (rest := []) (As := []) vm_X1_alight gw_697 (fire_o (camp_now (by decide : (28 : Nat) ∈ campL))) cq_1 dX10_carry_81 rfl rfl (Nat.le_of_ble_eq_true rfl) rfl (CI.mono H (fun r15 I16 X17 H => ?_))
            exact rs_iret dX10_carry_84 rfl H
          · have H := H.2 c
            refine r_bipush (n := 60) (v := (-2)) dX10_carry_58 kb_m2 rfl ?_
            exact rs_iret dX10_carry_60 rfl H
        · have H := H.2 c
          refine r_bipush (n := 46) (v := (-4)) dX10_carry_44 kb_m4 rfl ?_
          exact rs_iret dX10_carry_46 rfl H
      · have H := H.2 c
        refine r_iconst (n := 28) (v := (-1)) dX10_carry_27 ki_m1 rfl ?_
        exact rs_iret dX10_carry_28 rfl H
set_option maxRecDepth 20000 in
theorem en_X10_hour {g : OG} {d : Nat} {I : IT} {X : XT} {K : Int32 → IT → XT → Prop}  
    (H : CI g d iX3_isEmpty [rf g 24] I X (fun r1 I2 X3 =>
        (r1 = 0 →
          CI g d iX0_hasRoom [rf g 28, .int 1] I2 X3 (fun r4 I5 X6 =>
            (¬ r4 = 0 →
              CV g d iX0_act [rf g 28, .int 36] I5 X6 (fun I7 X8 =>
                CI g d iX1_alight [rf g (28 + 5)] I7 X8 (fun r9 I10 X11 =>
                  K r9 I10 X11))) ∧
            (r4 = 0 →
              K ((-2)) I5 X6))) ∧
        (¬ r1 = 0 →
          K ((-4)) I2 X3))) : CI g (d + 1) iX10_hour [rf g 1] I X K := by
  refine ocall_of (by decide) (Nat.le_of_ble_eq_true rfl) ?_
  show SR g (d + 1) iX10_hour 0 [(0, rf g 1)] I X (qI K)
  refine r_aload_n (n := 1) 0 dX10_hour_0 rfl rfl ?_
  refine r_getR (n := 4) cls_9 2 fi_9_2 so_1 gw_321 dX10_hour_1 rfl sr_1_2 (by decide) ?_
  refine rs_cVi (n := 7) (rest := []) (As := []) vm_X3_isEmpty gw_600 (lane_o (by decide : (24 : Nat) ∈ laneL)) cq_2 dX10_hour_4 rfl rfl (Nat.le_of_ble_eq_true rfl) rfl (CI.mono H (fun r1 I2 X3 H => ?_))
  refine r_if_eq (n := 10) (tgt := 13) dX10_hour_7 (by decide) rfl (fun c => ?_) (fun c => ?_)
  · have H := H.1 c
    refine r_aload_n (n := 14) 0 dX10_hour_13 rfl rfl ?_
    refine r_getR (n := 17) cls_9 3 fi_9_3 so_1 gw_322 dX10_hour_14 rfl sr_1_3 (by decide) ?_
    refine r_iconst (n := 18) (v := 1) dX10_hour_17 ki_1 rfl ?_
    refine rs_cVi (n := 21) (rest := []) (As := [.int _]) vm_X0_hasRoom gw_650 (camp_o (by decide : (28 : Nat) ∈ campL)) cq_0 dX10_hour_18 rfl rfl (Nat.le_of_ble_eq_true rfl) rfl (CI.mono H (fun r4 I5 X6 H => ?_))
    refine r_if_ne (n := 24) (tgt := 27) dX10_hour_21 (by decide) rfl (fun c => ?_) (fun c => ?_)
    · have H := H.1 c
      refine r_aload_n (n := 28) 0 dX10_hour_27 rfl rfl ?_
      refine r_getR (n := 31) cls_9 3 fi_9_3 so_1 gw_322 dX10_hour_28 rfl sr_1_3 (by decide) ?_
      refine r_bipush (n := 33) (v := 36) dX10_hour_31 kb_36 rfl ?_
      refine rs_cVv (n := 36) (rest := []) (As := [.int _]) vm_X0_act gw_654 (camp_o (by decide : (28 : Nat) ∈ campL)) cq_0 dX10_hour_33 rfl rfl (Nat.le_of_ble_eq_true rfl) rfl (CV.mono H (fun I7 X8 H => ?_))
      refine r_aload_n (n := 37) 0 dX10_hour_36 rfl rfl ?_
      refine r_getR (n := 40) cls_9 3 fi_9_3 so_1 gw_322 dX10_hour_37 rfl sr_1_3 (by decide) ?_
      refine r_getR (n := 43) cls_0 1 fi_0_1 (camp_o (by decide : (28 : Nat) ∈ campL)) gw_192 dX10_hour_40 rfl (camp_r1 (by decide : (28 : Nat) ∈ campL)) (camp_n1 (by decide : (28 : Nat) ∈ campL)) ?_
      refine rs_cVi (n := 46) (rest := []) (As := []) vm_X1_alight gw_697 (fire_o (camp_now (by decide : (28 : Nat) ∈ campL))) cq_1 dX10_hour_43 rfl rfl (Nat.le_of_ble_eq_true rfl) rfl (CI.mono H (fun r9 I10 X11 H => ?_))
      exact rs_iret dX10_hour_46 rfl H
    · have H := H.2 c
      refine r_bipush (n := 26) (v := (-2)) dX10_hour_24 kb_m2 rfl ?_
      exact rs_iret dX10_hour_26 rfl H
  · have H := H.2 c
    refine r_bipush (n := 12) (v := (-4)) dX10_hour_10 kb_m4 rfl ?_
    exact rs_iret dX10_hour_12 rfl H
set_option maxRecDepth 20000 in
theorem en_X10_undo {g : OG} {d : Nat} {I : IT} {X : XT} {K : Int32 → IT → XT → Prop} {l1 : Int32} 
    (H : (l1 < 0 →
        K ((-1)) I X) ∧
      (¬ l1 < 0 →
        (l1 ≤ (I 28 3) →
          CI g d iX0_goBack [rf g 28, .int l1] I X (fun r1 I2 X3 =>
            K r1 I2 X3)) ∧
        (¬ l1 ≤ (I 28 3) →
          K ((-1)) I X))) : CI g (d + 1) iX10_undo [rf g 1, .int l1] I X K := by
  refine ocall_of (by decide) (Nat.le_of_ble_eq_true rfl) ?_
  show SR g (d + 1) iX10_undo 0 [(0, rf g 1), (1, .int l1)] I X (qI K)
  refine r_iload_n (n := 1) 1 dX10_undo_0 rfl rfl ?_
  refine r_if_lt (n := 4) (tgt := 15) dX10_undo_1 (by decide) rfl (fun c => ?_) (fun c => ?_)
  · have H := H.1 c
    refine r_iconst (n := 16) (v := (-1)) dX10_undo_15 ki_m1 rfl ?_
    exact rs_iret dX10_undo_16 rfl H
  · have H := H.2 c
    refine r_iload_n (n := 5) 1 dX10_undo_4 rfl rfl ?_
    refine r_aload_n (n := 6) 0 dX10_undo_5 rfl rfl ?_
    refine r_getR (n := 9) cls_9 3 fi_9_3 so_1 gw_322 dX10_undo_6 rfl sr_1_3 (by decide) ?_
    refine rs_getI (n := 12) cls_0 3 fi_0_3 (camp_o (by decide : (28 : Nat) ∈ campL)) gw_195 dX10_undo_9 rfl ?_
    refine r_icmp_le (n := 15) (tgt := 17) dX10_undo_12 (by decide) rfl (fun c => ?_) (fun c => ?_)
    · have H := H.1 c
      refine r_aload_n (n := 18) 0 dX10_undo_17 rfl rfl ?_
      refine r_getR (n := 21) cls_9 3 fi_9_3 so_1 gw_322 dX10_undo_18 rfl sr_1_3 (by decide) ?_
      refine r_iload_n (n := 22) 1 dX10_undo_21 rfl rfl ?_
      refine rs_cVi (n := 25) (rest := []) (As := [.int _]) vm_X0_goBack gw_715 (camp_o (by decide : (28 : Nat) ∈ campL)) cq_0 dX10_undo_22 rfl rfl (Nat.le_of_ble_eq_true rfl) rfl (CI.mono H (fun r1 I2 X3 H => ?_))
      exact rs_iret dX10_undo_25 rfl H
    · have H := H.2 c
      refine r_iconst (n := 16) (v := (-1)) dX10_undo_15 ki_m1 rfl ?_
      exact rs_iret dX10_undo_16 rfl H
set_option maxRecDepth 20000 in
theorem en_X10_keep {g : OG} {d : Nat} {I : IT} {X : XT} {K : Int32 → IT → XT → Prop} {l1 : Int32} 
    (H : CI g d iX10_isKeepingPlace [.int l1] I X (fun r1 I2 X3 =>
        (¬ r1 = 0 →
          CI g d iX3_isEmpty [rf g 24] I2 X3 (fun r4 I5 X6 =>
            (r4 = 0 →
              vp_in l1 3 ∧
              CV g d iX0_become [rf g (keptA l1.toNatClampNeg), rf g 28] I5 X6 (fun I8 X9 =>
                K (I8 28 3) I8 X9)) ∧
            (¬ r4 = 0 →
              K ((-4)) I5 X6))) ∧
        (r1 = 0 →
          K ((-1)) I2 X3))) : CI g (d + 1) iX10_keep [rf g 1, .int l1] I X K := by
  refine ocall_of (by decide) (Nat.le_of_ble_eq_true rfl) ?_
  show SR g (d + 1) iX10_keep 0 [(0, rf g 1), (1, .int l1)] I X (qI K)
  refine r_iload_n (n := 1) 1 dX10_keep_0 rfl rfl ?_
  refine rs_cSi (n := 4) (rest := []) (As := [.int _]) sm_X10_isKeepingPlace gw_723 dX10_keep_1 rfl rfl (Nat.le_of_ble_eq_true rfl) rfl (CI.mono H (fun r1 I2 X3 H => ?_))
  refine r_if_ne (n := 7) (tgt := 9) dX10_keep_4 (by decide) rfl (fun c => ?_) (fun c => ?_)
  · have H := H.1 c
    refine r_aload_n (n := 10) 0 dX10_keep_9 rfl rfl ?_
    refine r_getR (n := 13) cls_9 2 fi_9_2 so_1 gw_321 dX10_keep_10 rfl sr_1_2 (by decide) ?_
    refine rs_cVi (n := 16) (rest := []) (As := []) vm_X3_isEmpty gw_600 (lane_o (by decide : (24 : Nat) ∈ laneL)) cq_2 dX10_keep_13 rfl rfl (Nat.le_of_ble_eq_true rfl) rfl (CI.mono H (fun r4 I5 X6 H => ?_))
    refine r_if_eq (n := 19) (tgt := 22) dX10_keep_16 (by decide) rfl (fun c => ?_) (fun c => ?_)
    · have H := H.1 c
      refine r_aload_n (n := 23) 0 dX10_keep_22 rfl rfl ?_
      refine r_getR (n := 26) cls_9 4 fi_9_4 so_1 gw_323 dX10_keep_23 rfl sr_1_4 (by decide) ?_
      refine r_iload_n (n := 27) 1 dX10_keep_26 rfl rfl ?_
      obtain ⟨hi7, H⟩ := H
      refine r_aald (n := 28) (z := 3) (t0 := 5) (K := "OneMatch$Campaign") sa_36 (by decide) (fun _ => rfl) hi7 dX10_keep_27 rfl (kept_el hi7) (kept_nz hi7) ?_
      refine r_aload_n (n := 29) 0 dX10_keep_28 rfl rfl ?_
      refine r_getR (n := 32) cls_9 3 fi_9_3 so_1 gw_322 dX10_keep_29 rfl sr_1_3 (by decide) ?_
      refine rs_cVv (n := 35) (rest := []) (As := [.ref _]) vm_X0_become gw_726 (camp_o (kept_mem hi7)) cq_0 dX10_keep_32 rfl rfl (Nat.le_of_ble_eq_true rfl) rfl (CV.mono H (fun I8 X9 H => ?_))
      refine r_aload_n (n := 36) 0 dX10_keep_35 rfl rfl ?_
      refine r_getR (n := 39) cls_9 3 fi_9_3 so_1 gw_322 dX10_keep_36 rfl sr_1_3 (by decide) ?_
      refine rs_getI (n := 42) cls_0 3 fi_0_3 (camp_o (by decide : (28 : Nat) ∈ campL)) gw_195 dX10_keep_39 rfl ?_
      exact rs_iret dX10_keep_42 rfl H
    · have H := H.2 c
      refine r_bipush (n := 21) (v := (-4)) dX10_keep_19 kb_m4 rfl ?_
      exact rs_iret dX10_keep_21 rfl H
  · have H := H.2 c
    refine r_iconst (n := 8) (v := (-1)) dX10_keep_7 ki_m1 rfl ?_
    exact rs_iret dX10_keep_8 rfl H
set_option maxRecDepth 20000 in
theorem en_X10_on {g : OG} {d : Nat} {I : IT} {X : XT} {K : Int32 → IT → XT → Prop} {l1 : Int32} 
    (H : CI g d iX10_isKeepingPlace [.int l1] I X (fun r1 I2 X3 =>
        (¬ r1 = 0 →
          vp_in l1 3 ∧
          (¬ (I2 (keptA l1.toNatClampNeg) 4) = 0 →
            vp_in l1 3 ∧
            CV g d iX0_become [rf g 28, rf g (keptA l1.toNatClampNeg)] I2 X3 (fun I6 X7 =>
              K (I6 28 3) I6 X7)) ∧
          ((I2 (keptA l1.toNatClampNeg) 4) = 0 →
            CI g d iX10_found [rf g 1, .int 1] I2 X3 (fun r8 I9 X10 =>
              K r8 I9 X10))) ∧
        (r1 = 0 →
          K ((-1)) I2 X3))) : CI g (d + 1) iX10_on [rf g 1, .int l1] I X K := by
  refine ocall_of (by decide) (Nat.le_of_ble_eq_true rfl) ?_
  show SR g (d + 1) iX10_on 0 [(0, rf g 1), (1, .int l1)] I X (qI K)
  refine r_iload_n (n := 1) 1 dX10_on_0 rfl rfl ?_
  refine rs_cSi (n := 4) (rest := []) (As := [.int _]) sm_X10_isKeepingPlace gw_723 dX10_on_1 rfl rfl (Nat.le_of_ble_eq_true rfl) rfl (CI.mono H (fun r1 I2 X3 H => ?_))
  refine r_if_ne (n := 7) (tgt := 9) dX10_on_4 (by decide) rfl (fun c => ?_) (fun c => ?_)
  · have H := H.1 c
    refine r_aload_n (n := 10) 0 dX10_on_9 rfl rfl ?_
    refine r_getR (n := 13) cls_9 4 fi_9_4 so_1 gw_323 dX10_on_10 rfl sr_1_4 (by decide) ?_
    refine r_iload_n (n := 14) 1 dX10_on_13 rfl rfl ?_
    obtain ⟨hi4, H⟩ := H
    refine r_aald (n := 15) (z := 3) (t0 := 5) (K := "OneMatch$Campaign") sa_36 (by decide) (fun _ => rfl) hi4 dX10_on_14 rfl (kept_el hi4) (kept_nz hi4) ?_
    refine rs_getI (n := 18) cls_0 4 fi_0_4 (camp_o (kept_mem hi4)) gw_197 dX10_on_15 rfl ?_
    refine r_if_ne (n := 21) (tgt := 27) dX10_on_18 (by decide) rfl (fun c => ?_) (fun c => ?_)
    · have H := H.1 c
      refine r_aload_n (n := 28) 0 dX10_on_27 rfl rfl ?_
      refine r_getR (n := 31) cls_9 3 fi_9_3 so_1 gw_322 dX10_on_28 rfl sr_1_3 (by decide) ?_
      refine r_aload_n (n := 32) 0 dX10_on_31 rfl rfl ?_
      refine r_getR (n := 35) cls_9 4 fi_9_4 so_1 gw_323 dX10_on_32 rfl sr_1_4 (by decide) ?_
      refine r_iload_n (n := 36) 1 dX10_on_35 rfl rfl ?_
      obtain ⟨hi5, H⟩ := H
      refine r_aald (n := 37) (z := 3) (t0 := 5) (K := "OneMatch$Campaign") sa_36 (by decide) (fun _ => rfl) hi5 dX10_on_36 rfl (kept_el hi5) (kept_nz hi5) ?_
      refine rs_cVv (n := 40) (rest := []) (As := [.ref _]) vm_X0_become gw_726 (camp_o (by decide : (28 : Nat) ∈ campL)) cq_0 dX10_on_37 rfl rfl (Nat.le_of_ble_eq_true rfl) rfl (CV.mono H (fun I6 X7 H => ?_))
      refine r_aload_n (n := 41) 0 dX10_on_40 rfl rfl ?_
      refine r_getR (n := 44) cls_9 3 fi_9_3 so_1 gw_322 dX10_on_41 rfl sr_1_3 (by decide) ?_
      refine rs_getI (n := 47) cls_0 3 fi_0_3 (camp_o (by decide : (28 : Nat) ∈ campL)) gw_195 dX10_on_44 rfl ?_
      exact rs_iret dX10_on_47 rfl H
    · have H := H.2 c
      refine r_aload_n (n := 22) 0 dX10_on_21 rfl rfl ?_
      refine r_iconst (n := 23) (v := 1) dX10_on_22 ki_1 rfl ?_
      refine rs_cVi (n := 26) (rest := []) (As := [.int _]) vm_X10_found gw_378 so_1 cq_9 dX10_on_23 rfl rfl (Nat.le_of_ble_eq_true rfl) rfl (CI.mono H (fun r8 I9 X10 H => ?_))
      exact rs_iret dX10_on_26 rfl H
  · have H := H.2 c
    refine r_iconst (n := 8) (v := (-1)) dX10_on_7 ki_m1 rfl ?_
    exact rs_iret dX10_on_8 rfl H
set_option maxRecDepth 20000 in
theorem en_X10_fires {g : OG} {d : Nat} {I : IT} {X : XT} {K : Int32 → IT → XT → Prop}  
    (H : CI g d iX1_catching [rf g (28 + 5)] I X (fun r1 I2 X3 =>
        ∀ I4 : IT, I4 = set2 I2 1 14 r1 →
        K (I4 (28 + 5) 3) I4 X3)) : CI g (d + 1) iX10_fires [rf g 1] I X K := by
  refine ocall_of (by decide) (Nat.le_of_ble_eq_true rfl) ?_
  show SR g (d + 1) iX10_fires 0 [(0, rf g 1)] I X (qI K)
  refine r_aload_n (n := 1) 0 dX10_fires_0 rfl rfl ?_
  refine r_aload_n (n := 2) 0 dX10_fires_1 rfl rfl ?_
  refine r_getR (n := 5) cls_9 3 fi_9_3 so_1 gw_322 dX10_fires_2 rfl sr_1_3 (by decide) ?_
  refine r_getR (n := 8) cls_0 1 fi_0_1 (camp_o (by decide : (28 : Nat) ∈ campL)) gw_192 dX10_fires_5 rfl (camp_r1 (by decide : (28 : Nat) ∈ campL)) (camp_n1 (by decide : (28 : Nat) ∈ campL)) ?_
  refine rs_cVi (n := 11) (rest := [.ref _]) (As := []) vm_X1_catching gw_739 (fire_o (camp_now (by decide : (28 : Nat) ∈ campL))) cq_1 dX10_fires_8 rfl rfl (Nat.le_of_ble_eq_true rfl) rfl (CI.mono H (fun r1 I2 X3 H => ?_))
  have H := H _ rfl
  refine rs_putI (n := 14) cls_9 14 fp_9_14 so_1 gw_333 dX10_fires_11 rfl ?_
  refine r_aload_n (n := 15) 0 dX10_fires_14 rfl rfl ?_
  refine r_getR (n := 18) cls_9 3 fi_9_3 so_1 gw_322 dX10_fires_15 rfl sr_1_3 (by decide) ?_
  refine r_getR (n := 21) cls_0 1 fi_0_1 (camp_o (by decide : (28 : Nat) ∈ campL)) gw_192 dX10_fires_18 rfl (camp_r1 (by decide : (28 : Nat) ∈ campL)) (camp_n1 (by decide : (28 : Nat) ∈ campL)) ?_
  refine rs_getI (n := 24) cls_1 3 fi_1_3 (fire_o (camp_now (by decide : (28 : Nat) ∈ campL))) gw_168 dX10_fires_21 rfl ?_
  exact rs_iret dX10_fires_24 rfl H
set_option maxRecDepth 20000 in
theorem en_X10_reach {g : OG} {d : Nat} {I : IT} {X : XT} {K : Int32 → IT → XT → Prop}  
    (H : CI g d iX1_reachable [rf g (28 + 5)] I X (fun r1 I2 X3 =>
        K r1 I2 X3)) : CI g (d + 1) iX10_reach [rf g 1] I X K := by
  refine ocall_of (by decide) (Nat.le_of_ble_eq_true rfl) ?_
  show SR g (d + 1) iX10_reach 0 [(0, rf g 1)] I X (qI K)
  refine r_aload_n (n := 1) 0 dX10_reach_0 rfl rfl ?_
  refine r_getR (n := 4) cls_9 3 fi_9_3 so_1 gw_322 dX10_reach_1 rfl sr_1_3 (by decide) ?_
  refine r_getR (n := 7) cls_0 1 fi_0_1 (camp_o (by decide : (28 : Nat) ∈ campL)) gw_192 dX10_reach_4 rfl (camp_r1 (by decide : (28 : Nat) ∈ campL)) (camp_n1 (by decide : (28 : Nat) ∈ campL)) ?_
  refine rs_cVi (n := 10) (rest := []) (As := []) vm_X1_reachable gw_747 (fire_o (camp_now (by decide : (28 : Nat) ∈ campL))) cq_1 dX10_reach_7 rfl rfl (Nat.le_of_ble_eq_true rfl) rfl (CI.mono H (fun r1 I2 X3 H => ?_))
  exact rs_iret dX10_reach_10 rfl H
set_option maxRecDepth 20000 in
theorem en_X10_lasts {g : OG} {d : Nat} {I : IT} {X : XT} {K : Int32 → IT → XT → Prop} {l1 : Int32} 
    (H : CI g d iX3_has [rf g 24, .int l1] I X (fun r1 I2 X3 =>
        (¬ r1 = 0 →
          CI g d iX1_burnsOn [rf g (28 + 5), .int l1] I2 X3 (fun r4 I5 X6 =>
            K r4 I5 X6)) ∧
        (r1 = 0 →
          K ((-1)) I2 X3))) : CI g (d + 1) iX10_lasts [rf g 1, .int l1] I X K := by
  refine ocall_of (by decide) (Nat.le_of_ble_eq_true rfl) ?_
  show SR g (d + 1) iX10_lasts 0 [(0, rf g 1), (1, .int l1)] I X (qI K)
  refine r_aload_n (n := 1) 0 dX10_lasts_0 rfl rfl ?_
  refine r_getR (n := 4) cls_9 2 fi_9_2 so_1 gw_321 dX10_lasts_1 rfl sr_1_2 (by decide) ?_
  refine r_iload_n (n := 5) 1 dX10_lasts_4 rfl rfl ?_
  refine rs_cVi (n := 8) (rest := []) (As := [.int _]) vm_X3_has gw_559 (lane_o (by decide : (24 : Nat) ∈ laneL)) cq_2 dX10_lasts_5 rfl rfl (Nat.le_of_ble_eq_true rfl) rfl (CI.mono H (fun r1 I2 X3 H => ?_))
  refine r_if_ne (n := 11) (tgt := 13) dX10_lasts_8 (by decide) rfl (fun c => ?_) (fun c => ?_)
  · have H := H.1 c
    refine r_aload_n (n := 14) 0 dX10_lasts_13 rfl rfl ?_
    refine r_getR (n := 17) cls_9 3 fi_9_3 so_1 gw_322 dX10_lasts_14 rfl sr_1_3 (by decide) ?_
    refine r_getR (n := 20) cls_0 1 fi_0_1 (camp_o (by decide : (28 : Nat) ∈ campL)) gw_192 dX10_lasts_17 rfl (camp_r1 (by decide : (28 : Nat) ∈ campL)) (camp_n1 (by decide : (28 : Nat) ∈ campL)) ?_
    refine r_iload_n (n := 21) 1 dX10_lasts_20 rfl rfl ?_
    refine rs_cVi (n := 24) (rest := []) (As := [.int _]) vm_X1_burnsOn gw_760 (fire_o (camp_now (by decide : (28 : Nat) ∈ campL))) cq_1 dX10_lasts_21 rfl rfl (Nat.le_of_ble_eq_true rfl) rfl (CI.mono H (fun r4 I5 X6 H => ?_))
    exact rs_iret dX10_lasts_24 rfl H
  · have H := H.2 c
    refine r_iconst (n := 12) (v := (-1)) dX10_lasts_11 ki_m1 rfl ?_
    exact rs_iret dX10_lasts_12 rfl H
set_option maxRecDepth 20000 in
theorem en_X10_dark {g : OG} {d : Nat} {I : IT} {X : XT} {K : Int32 → IT → XT → Prop}  
    (H : SR g (d + 1) iX10_dark 4 [(0, rf g 1), (1, .int 0), (2, .int 0)] I X (qI K)) : CI g (d + 1) iX10_dark [rf g 1] I X K := by
  refine ocall_of (by decide) (Nat.le_of_ble_eq_true rfl) ?_
  show SR g (d + 1) iX10_dark 0 [(0, rf g 1)] I X (qI K)
  refine r_iconst (n := 1) (v := 0) dX10_dark_0 ki_0 rfl ?_
  refine r_istore_n (n := 2) (lv' := [(1, .int _), (0, .ref _)]) dX10_dark_1 rfl (by decide) rfl rfl ?_
  refine r_iconst (n := 3) (v := 0) dX10_dark_2 ki_0 rfl ?_
  refine r_istore_n (n := 4) (lv' := [(2, .int _), (1, .int _), (0, .ref _)]) dX10_dark_3 rfl (by decide) rfl rfl ?_
  exact r_sub [2, 1, 0] rfl H
set_option maxRecDepth 20000 in
theorem rg_X10_dark_4 {g : OG} {d : Nat} {I : IT} {X : XT} {K : Int32 → IT → XT → Prop} {l1 : Int32} {l2 : Int32} 
    (H : ((I 24 4) ≤ l2 →
        K l1 I X) ∧
      (¬ (I 24 4) ≤ l2 →
        CI g d iX1_burnsOn [rf g (28 + 5), .int l2] I X (fun r1 I2 X3 =>
          ∀ x4 : Int32, x4 = (if l1 < r1 then r1 else l1 : Int32) →
          ∀ x5 : Int32, x5 = l2 + 1 →
          SR g (d + 1) iX10_dark 4 [(0, rf g 1), (1, .int x4), (2, .int x5)] I2 X3 (qI K)))) : SR g (d + 1) iX10_dark 4 [(0, rf g 1), (1, .int l1), (2, .int l2)] I X (qI K) := by
  refine r_iload_n (n := 5) 2 dX10_dark_4 rfl rfl ?_
  refine r_aload_n (n := 6) 0 dX10_dark_5 rfl rfl ?_
  refine r_getR (n := 9) cls_9 2 fi_9_2 so_1 gw_321 dX10_dark_6 rfl sr_1_2 (by decide) ?_
  refine rs_getI (n := 12) cls_2 4 fi_2_4 (lane_o (by decide : (24 : Nat) ∈ laneL)) gw_138 dX10_dark_9 rfl ?_
  refine r_icmp_ge (n := 15) (tgt := 37) dX10_dark_12 (by decide) rfl (fun c => ?_) (fun c => ?_)
  · have H := H.1 c
    refine r_iload_n (n := 38) 1 dX10_dark_37 rfl rfl ?_
    exact rs_iret dX10_dark_38 rfl H
  · have H := H.2 c
    refine r_iload_n (n := 16) 1 dX10_dark_15 rfl rfl ?_
    refine r_aload_n (n := 17) 0 dX10_dark_16 rfl rfl ?_
    refine r_getR (n := 20) cls_9 3 fi_9_3 so_1 gw_322 dX10_dark_17 rfl sr_1_3 (by decide) ?_
    refine r_getR (n := 23) cls_0 1 fi_0_1 (camp_o (by decide : (28 : Nat) ∈ campL)) gw_192 dX10_dark_20 rfl (camp_r1 (by decide : (28 : Nat) ∈ campL)) (camp_n1 (by decide : (28 : Nat) ∈ campL)) ?_
    refine r_iload_n (n := 24) 2 dX10_dark_23 rfl rfl ?_
    refine rs_cVi (n := 27) (rest := [.int _]) (As := [.int _]) vm_X1_burnsOn gw_760 (fire_o (camp_now (by decide : (28 : Nat) ∈ campL))) cq_1 dX10_dark_24 rfl rfl (Nat.le_of_ble_eq_true rfl) rfl (CI.mono H (fun r1 I2 X3 H => ?_))
    refine r_mmax (n := 30) dX10_dark_27 ⟨gw_773, gw_675, gw_77, gw_676⟩ (Nat.le_of_ble_eq_true rfl) rfl ?_
    have H := H _ rfl
    refine r_istore_n (n := 31) (lv' := [(1, .int _), (0, .ref _), (2, .int _)]) dX10_dark_30 rfl (by decide) rfl rfl ?_
    have H := H _ rfl
    refine r_iinc (n := 34) (lv' := [(2, .int _), (1, .int _), (0, .ref _)]) 2 dX10_dark_31 rfl rfl (by decide) rfl rfl ?_
    refine r_goto (n := 4) dX10_dark_34 (by decide) ?_
    exact r_sub [2, 1, 0] rfl H
set_option maxRecDepth 20000 in
theorem en_X10_worst {g : OG} {d : Nat} {I : IT} {X : XT} {K : Int32 → IT → XT → Prop} {l1 : Int32} 
    (H : (l1 < 1 →
        K ((-1)) I X) ∧
      (¬ l1 < 1 →
        (l1 ≤ 20 →
          CI g d iX3_isEmpty [rf g 24] I X (fun r1 I2 X3 =>
            (r1 = 0 →
              CI g d iX1_alightAfter [rf g (28 + 5), .int 1] I2 X3 (fun r4 I5 X6 =>
                SR g (d + 1) iX10_worst 43 [(0, rf g 1), (1, .int l1), (2, .int 1), (3, .int r4), (4, .int 2)] I5 X6 (qI K))) ∧
            (¬ r1 = 0 →
              K ((-4)) I2 X3))) ∧
        (¬ l1 ≤ 20 →
          K ((-1)) I X))) : CI g (d + 1) iX10_worst [rf g 1, .int l1] I X K := by
  refine ocall_of (by decide) (Nat.le_of_ble_eq_true rfl) ?_
  show SR g (d + 1) iX10_worst 0 [(0, rf g 1), (1, .int l1)] I X (qI K)
  refine r_iload_n (n := 1) 1 dX10_worst_0 rfl rfl ?_
  refine r_iconst (n := 2) (v := 1) dX10_worst_1 ki_1 rfl ?_
  refine r_icmp_lt (n := 5) (tgt := 11) dX10_worst_2 (by decide) rfl (fun c => ?_) (fun c => ?_)
  · have H := H.1 c
    refine r_iconst (n := 12) (v := (-1)) dX10_worst_11 ki_m1 rfl ?_
    exact rs_iret dX10_worst_12 rfl H
  · have H := H.2 c
    refine r_iload_n (n := 6) 1 dX10_worst_5 rfl rfl ?_
    refine r_bipush (n := 8) (v := 20) dX10_worst_6 kb_20 rfl ?_
    refine r_icmp_le (n := 11) (tgt := 13) dX10_worst_8 (by decide) rfl (fun c => ?_) (fun c => ?_)
    · have H := H.1 c
      refine r_aload_n (n := 14) 0 dX10_worst_13 rfl rfl ?_
      refine r_getR (n := 17) cls_9 2 fi_9_2 so_1 gw_321 dX10_worst_14 rfl sr_1_2 (by decide) ?_
      refine rs_cVi (n := 20) (rest := []) (As := []) vm_X3_isEmpty gw_600 (lane_o (by decide : (24 : Nat) ∈ laneL)) cq_2 dX10_worst_17 rfl rfl (Nat.le_of_ble_eq_true rfl) rfl (CI.mono H (fun r1 I2 X3 H => ?_))
      refine r_if_eq (n := 23) (tgt := 26) dX10_worst_20 (by decide) rfl (fun c => ?_) (fun c => ?_)
      · have H := H.1 c
        refine r_iconst (n := 27) (v := 1) dX10_worst_26 ki_1 rfl ?_
        refine r_istore_n (n := 28) (lv' := [(2, .int _), (0, .ref _), (1, .int _)]) dX10_worst_27 rfl (by decide) rfl rfl ?_
        refine r_aload_n (n := 29) 1 dX10_worst_28 rfl rfl ?_
        refine r_getR (n := 32) cls_9 3 fi_9_3 so_1 gw_322 dX10_worst_29 rfl sr_1_3 (by decide) ?_
        refine r_getR (n := 35) cls_0 1 fi_0_1 (camp_o (by decide : (28 : Nat) ∈ campL)) gw_192 dX10_worst_32 rfl (camp_r1 (by decide : (28 : Nat) ∈ campL)) (camp_n1 (by decide : (28 : Nat) ∈ campL)) ?_
        refine r_iconst (n := 36) (v := 1) dX10_worst_35 ki_1 rfl ?_
        refine rs_cVi (n := 39) (rest := []) (As := [.int _]) vm_X1_alightAfter gw_778 (fire_o (camp_now (by decide : (28 : Nat) ∈ campL))) cq_1 dX10_worst_36 rfl rfl (Nat.le_of_ble_eq_true rfl) rfl (CI.mono H (fun r4 I5 X6 H => ?_))
        refine r_istore_n (n := 40) (lv' := [(3, .int _), (2, .int _), (0, .ref _), (1, .int _)]) dX10_worst_39 rfl (by decide) rfl rfl ?_
        refine r_iconst (n := 41) (v := 2) dX10_worst_40 ki_2 rfl ?_
        refine r_istore (n := 43) (lv' := [(4, .int _), (3, .int _), (2, .int _), (0, .ref _), (1, .int _)]) dX10_worst_41 (by decide) rfl rfl ?_
        exact r_sub [3, 4, 2, 1, 0] rfl H
      · have H := H.2 c
        refine r_bipush (n := 25) (v := (-4)) dX10_worst_23 kb_m4 rfl ?_
        exact rs_iret dX10_worst_25 rfl H
    · have H := H.2 c
      refine r_iconst (n := 12) (v := (-1)) dX10_worst_11 ki_m1 rfl ?_
      exact rs_iret dX10_worst_12 rfl H
set_option maxRecDepth 20000 in
theorem rg_X10_worst_43 {g : OG} {d : Nat} {I : IT} {X : XT} {K : Int32 → IT → XT → Prop} {l1 : Int32} {l2 : Int32} {l3 : Int32} {l4 : Int32} 
    (H : (l1 < l4 →
        ∀ I1 : IT, I1 = set2 I 1 14 l3 →
        K l2 I1 X) ∧
      (¬ l1 < l4 →
        CI g d iX1_alightAfter [rf g (28 + 5), .int l4] I X (fun r2 I3 X4 =>
          (l3 ≤ r2 →
            ∀ x5 : Int32, x5 = l4 + 1 →
            SR g (d + 1) iX10_worst 43 [(0, rf g 1), (1, .int l1), (2, .int l2), (3, .int l3), (4, .int x5)] I3 X4 (qI K)) ∧
          (¬ l3 ≤ r2 →
            ∀ x6 : Int32, x6 = l4 + 1 →
            SR g (d + 1) iX10_worst 43 [(0, rf g 1), (1, .int l1), (2, .int l4), (3, .int r2), (4, .int x6)] I3 X4 (qI K))))) : SR g (d + 1) iX10_worst 43 [(0, rf g 1), (1, .int l1), (2, .int l2), (3, .int l3), (4, .int l4)] I X (qI K) := by
  refine r_iload (n := 45) 4 dX10_worst_43 rfl rfl ?_
  refine r_iload_n (n := 46) 1 dX10_worst_45 rfl rfl ?_
  refine r_icmp_gt (n := 49) (tgt := 81) dX10_worst_46 (by decide) rfl (fun c => ?_) (fun c => ?_)
  · have H := H.1 c
    refine r_aload_n (n := 82) 0 dX10_worst_81 rfl rfl ?_
    refine r_iload_n (n := 83) 3 dX10_worst_82 rfl rfl ?_
    have H := H _ rfl
    refine rs_putI (n := 86) cls_9 14 fp_9_14 so_1 gw_333 dX10_worst_83 rfl ?_
    refine r_iload_n (n := 87) 2 dX10_worst_86 rfl rfl ?_
    exact rs_iret dX10_worst_87 rfl H
  · have H := H.2 c
    refine r_aload_n (n := 50) 0 dX10_worst_49 rfl rfl ?_
    refine r_getR (n := 53) cls_9 3 fi_9_3 so_1 gw_322 dX10_worst_50 rfl sr_1_3 (by decide) ?_
    refine r_getR (n := 56) cls_0 1 fi_0_1 (camp_o (by decide : (28 : Nat) ∈ campL)) gw_192 dX10_worst_53 rfl (camp_r1 (by decide : (28 : Nat) ∈ campL)) (camp_n1 (by decide : (28 : Nat) ∈ campL)) ?_
    refine r_iload (n := 58) 4 dX10_worst_56 rfl rfl ?_
    refine rs_cVi (n := 61) (rest := []) (As := [.int _]) vm_X1_alightAfter gw_778 (fire_o (camp_now (by decide : (28 : Nat) ∈ campL))) cq_1 dX10_worst_58 rfl rfl (Nat.le_of_ble_eq_true rfl) rfl (CI.mono H (fun r2 I3 X4 H => ?_))
    refine r_istore (n := 63) (lv' := [(5, .int _), (0, .ref _), (1, .int _), (2, .int _), (3, .int _), (4, .int _)]) dX10_worst_61 (by decide) rfl rfl ?_
    refine r_iload (n := 65) 0 dX10_worst_63 rfl rfl ?_
    refine r_iload_n (n := 66) 4 dX10_worst_65 rfl rfl ?_
    refine r_icmp_ge (n := 69) (tgt := 75) dX10_worst_66 (by decide) rfl (fun c => ?_) (fun c => ?_)
    · have H := H.1 c
      have H := H _ rfl
      refine r_iinc (n := 78) (lv' := [(4, .int _), (5, .int _), (0, .ref _), (1, .int _), (2, .int _), (3, .int _)]) 5 dX10_worst_75 rfl rfl (by decide) rfl rfl ?_
      refine r_goto (n := 43) dX10_worst_78 (by decide) ?_
      exact r_sub [2, 3, 4, 5, 0] rfl H
    · have H := H.2 c
      refine r_iload (n := 71) 5 dX10_worst_69 rfl rfl ?_
      refine r_istore_n (n := 72) (lv' := [(2, .int _), (5, .int _), (0, .ref _), (1, .int _), (3, .int _), (4, .int _)]) dX10_worst_71 rfl (by decide) rfl rfl ?_
      refine r_iload (n := 74) 1 dX10_worst_72 rfl rfl ?_
      refine r_istore_n (n := 75) (lv' := [(3, .int _), (2, .int _), (5, .int _), (0, .ref _), (1, .int _), (4, .int _)]) dX10_worst_74 rfl (by decide) rfl rfl ?_
      have H := H _ rfl
      refine r_iinc (n := 78) (lv' := [(4, .int _), (3, .int _), (2, .int _), (5, .int _), (0, .ref _), (1, .int _)]) 5 dX10_worst_75 rfl rfl (by decide) rfl rfl ?_
      refine r_goto (n := 43) dX10_worst_78 (by decide) ?_
      exact r_sub [4, 5, 2, 1, 0] rfl H
set_option maxRecDepth 20000 in
theorem en_X10_can {g : OG} {d : Nat} {I : IT} {X : XT} {K : Int32 → IT → XT → Prop} {l1 : Int32} 
    (H : CI g d iX10_isAhead [.int l1] I X (fun r1 I2 X3 =>
        (¬ r1 = 0 →
          CV g d iX5_search [rf g 72, rf g (28 + 5), .int l1, .int 0, .int 0] I2 X3 (fun I4 X5 =>
            K (I4 72 9) I4 X5)) ∧
        (r1 = 0 →
          K ((-1)) I2 X3))) : CI g (d + 1) iX10_can [rf g 1, .int l1] I X K := by
  refine ocall_of (by decide) (Nat.le_of_ble_eq_true rfl) ?_
  show SR g (d + 1) iX10_can 0 [(0, rf g 1), (1, .int l1)] I X (qI K)
  refine r_iload_n (n := 1) 1 dX10_can_0 rfl rfl ?_
  refine rs_cSi (n := 4) (rest := []) (As := [.int _]) sm_X10_isAhead gw_787 dX10_can_1 rfl rfl (Nat.le_of_ble_eq_true rfl) rfl (CI.mono H (fun r1 I2 X3 H => ?_))
  refine r_if_ne (n := 7) (tgt := 9) dX10_can_4 (by decide) rfl (fun c => ?_) (fun c => ?_)
  · have H := H.1 c
    refine r_aload_n (n := 10) 0 dX10_can_9 rfl rfl ?_
    refine r_getR (n := 13) cls_9 9 fi_9_9 so_1 gw_328 dX10_can_10 rfl sr_1_9 (by decide) ?_
    refine r_aload_n (n := 14) 0 dX10_can_13 rfl rfl ?_
    refine r_getR (n := 17) cls_9 3 fi_9_3 so_1 gw_322 dX10_can_14 rfl sr_1_3 (by decide) ?_
    refine r_getR (n := 20) cls_0 1 fi_0_1 (camp_o (by decide : (28 : Nat) ∈ campL)) gw_192 dX10_can_17 rfl (camp_r1 (by decide : (28 : Nat) ∈ campL)) (camp_n1 (by decide : (28 : Nat) ∈ campL)) ?_
    refine r_iload_n (n := 21) 1 dX10_can_20 rfl rfl ?_
    refine r_iconst (n := 22) (v := 0) dX10_can_21 ki_0 rfl ?_
    refine r_iconst (n := 23) (v := 0) dX10_can_22 ki_0 rfl ?_
    refine rs_cVv (n := 26) (rest := []) (As := [.ref _, .int _, .int _, .int _]) vm_X5_search gw_790 so_72 cq_4 dX10_can_23 rfl rfl (Nat.le_of_ble_eq_true rfl) rfl (CV.mono H (fun I4 X5 H => ?_))
    refine r_aload_n (n := 27) 0 dX10_can_26 rfl rfl ?_
    refine r_getR (n := 30) cls_9 9 fi_9_9 so_1 gw_328 dX10_can_27 rfl sr_1_9 (by decide) ?_
    refine rs_getI (n := 33) cls_4 9 fi_4_9 so_72 gw_242 dX10_can_30 rfl ?_
    exact rs_iret dX10_can_33 rfl H
  · have H := H.2 c
    refine r_iconst (n := 8) (v := (-1)) dX10_can_7 ki_m1 rfl ?_
    exact rs_iret dX10_can_8 rfl H
set_option maxRecDepth 20000 in
theorem en_X10_plan {g : OG} {d : Nat} {I : IT} {X : XT} {K : Int32 → IT → XT → Prop} {l1 : Int32} {l2 : Int32} {l3 : Int32} 
    (H : CI g d iX3_has [rf g 24, .int l1] I X (fun r1 I2 X3 =>
        (r1 = 0 →
          K ((-1)) I2 X3) ∧
        (¬ r1 = 0 →
          CI g d iX10_isAhead [.int l2] I2 X3 (fun r4 I5 X6 =>
            (r4 = 0 →
              K ((-1)) I5 X6) ∧
            (¬ r4 = 0 →
              CI g d iX10_isRow [.int l3] I5 X6 (fun r7 I8 X9 =>
                (¬ r7 = 0 →
                  CV g d iX5_search [rf g 72, rf g (28 + 5), .int l2, .int 1, .int l1] I8 X9 (fun I10 X11 =>
                    vp_in l3 6 ∧
                    CI g d iX10_planInto [rf g 1, rf g (rowA l3.toNatClampNeg)] I10 X11 (fun r13 I14 X15 =>
                      K r13 I14 X15))) ∧
                (r7 = 0 →
                  K ((-1)) I8 X9))))))) : CI g (d + 1) iX10_plan [rf g 1, .int l1, .int l2, .int l3] I X K := by
  refine ocall_of (by decide) (Nat.le_of_ble_eq_true rfl) ?_
  show SR g (d + 1) iX10_plan 0 [(0, rf g 1), (1, .int l1), (2, .int l2), (3, .int l3)] I X (qI K)
  refine r_aload_n (n := 1) 0 dX10_plan_0 rfl rfl ?_
  refine r_getR (n := 4) cls_9 2 fi_9_2 so_1 gw_321 dX10_plan_1 rfl sr_1_2 (by decide) ?_
  refine r_iload_n (n := 5) 1 dX10_plan_4 rfl rfl ?_
  refine rs_cVi (n := 8) (rest := []) (As := [.int _]) vm_X3_has gw_559 (lane_o (by decide : (24 : Nat) ∈ laneL)) cq_2 dX10_plan_5 rfl rfl (Nat.le_of_ble_eq_true rfl) rfl (CI.mono H (fun r1 I2 X3 H => ?_))
  refine r_if_eq (n := 11) (tgt := 25) dX10_plan_8 (by decide) rfl (fun c => ?_) (fun c => ?_)
  · have H := H.1 c
    refine r_iconst (n := 26) (v := (-1)) dX10_plan_25 ki_m1 rfl ?_
    exact rs_iret dX10_plan_26 rfl H
  · have H := H.2 c
    refine r_iload_n (n := 12) 2 dX10_plan_11 rfl rfl ?_
    refine rs_cSi (n := 15) (rest := []) (As := [.int _]) sm_X10_isAhead gw_787 dX10_plan_12 rfl rfl (Nat.le_of_ble_eq_true rfl) rfl (CI.mono H (fun r4 I5 X6 H => ?_))
    refine r_if_eq (n := 18) (tgt := 25) dX10_plan_15 (by decide) rfl (fun c => ?_) (fun c => ?_)
    · have H := H.1 c
      refine r_iconst (n := 26) (v := (-1)) dX10_plan_25 ki_m1 rfl ?_
      exact rs_iret dX10_plan_26 rfl H
    · have H := H.2 c
      refine r_iload_n (n := 19) 3 dX10_plan_18 rfl rfl ?_
      refine rs_cSi (n := 22) (rest := []) (As := [.int _]) sm_X10_isRow gw_375 dX10_plan_19 rfl rfl (Nat.le_of_ble_eq_true rfl) rfl (CI.mono H (fun r7 I8 X9 H => ?_))
      refine r_if_ne (n := 25) (tgt := 27) dX10_plan_22 (by decide) rfl (fun c => ?_) (fun c => ?_)
      · have H := H.1 c
        refine r_aload_n (n := 28) 0 dX10_plan_27 rfl rfl ?_
        refine r_getR (n := 31) cls_9 9 fi_9_9 so_1 gw_328 dX10_plan_28 rfl sr_1_9 (by decide) ?_
        refine r_aload_n (n := 32) 0 dX10_plan_31 rfl rfl ?_
        refine r_getR (n := 35) cls_9 3 fi_9_3 so_1 gw_322 dX10_plan_32 rfl sr_1_3 (by decide) ?_
        refine r_getR (n := 38) cls_0 1 fi_0_1 (camp_o (by decide : (28 : Nat) ∈ campL)) gw_192 dX10_plan_35 rfl (camp_r1 (by decide : (28 : Nat) ∈ campL)) (camp_n1 (by decide : (28 : Nat) ∈ campL)) ?_
        refine r_iload_n (n := 39) 2 dX10_plan_38 rfl rfl ?_
        refine r_iconst (n := 40) (v := 1) dX10_plan_39 ki_1 rfl ?_
        refine r_iload_n (n := 41) 1 dX10_plan_40 rfl rfl ?_
        refine rs_cVv (n := 44) (rest := []) (As := [.ref _, .int _, .int _, .int _]) vm_X5_search gw_790 so_72 cq_4 dX10_plan_41 rfl rfl (Nat.le_of_ble_eq_true rfl) rfl (CV.mono H (fun I10 X11 H => ?_))
        refine r_aload_n (n := 45) 0 dX10_plan_44 rfl rfl ?_
        refine r_aload_n (n := 46) 0 dX10_plan_45 rfl rfl ?_
        refine r_getR (n := 49) cls_9 0 fi_9_0 so_1 gw_319 dX10_plan_46 rfl sr_1_0 (by decide) ?_
        refine r_iload_n (n := 50) 3 dX10_plan_49 rfl rfl ?_
        obtain ⟨hi12, H⟩ := H
        refine r_aald (n := 51) (z := 6) (t0 := 3) (K := "OneMatch$Row") sa_2 (by decide) (fun _ => rfl) hi12 dX10_plan_50 rfl (row_el hi12) (row_nz hi12) ?_
        refine rs_cVi (n := 54) (rest := []) (As := [.ref _]) vm_X10_planInto gw_837 so_1 cq_9 dX10_plan_51 rfl rfl (Nat.le_of_ble_eq_true rfl) rfl (CI.mono H (fun r13 I14 X15 H => ?_))
        exact rs_iret dX10_plan_54 rfl H
      · have H := H.2 c
        refine r_iconst (n := 26) (v := (-1)) dX10_plan_25 ki_m1 rfl ?_
        exact rs_iret dX10_plan_26 rfl H
set_option maxRecDepth 20000 in
theorem en_X10_ways {g : OG} {d : Nat} {I : IT} {X : XT} {K : Int32 → IT → XT → Prop} {l1 : Int32} {l2 : Int32} 
    (H : CI g d iX3_has [rf g 24, .int l1] I X (fun r1 I2 X3 =>
        (r1 = 0 →
          K ((-1)) I2 X3) ∧
        (¬ r1 = 0 →
          CI g d iX10_isAhead [.int l2] I2 X3 (fun r4 I5 X6 =>
            (¬ r4 = 0 →
              CV g d iX5_search [rf g 72, rf g (28 + 5), .int l2, .int 0, .int l1] I5 X6 (fun I7 X8 =>
                ∀ I9 : IT, I9 = set2 I7 1 14 (I7 72 8) →
                CV g d iX10_tell [rf g 1, .long ((I9 72 7).toInt64), .long 1] I9 X8 (fun I10 X11 =>
                  K 1 I10 X11))) ∧
            (r4 = 0 →
              K ((-1)) I5 X6))))) : CI g (d + 1) iX10_ways [rf g 1, .int l1, .int l2] I X K := by
  refine ocall_of (by decide) (Nat.le_of_ble_eq_true rfl) ?_
  show SR g (d + 1) iX10_ways 0 [(0, rf g 1), (1, .int l1), (2, .int l2)] I X (qI K)
  refine r_aload_n (n := 1) 0 dX10_ways_0 rfl rfl ?_
  refine r_getR (n := 4) cls_9 2 fi_9_2 so_1 gw_321 dX10_ways_1 rfl sr_1_2 (by decide) ?_
  refine r_iload_n (n := 5) 1 dX10_ways_4 rfl rfl ?_
  refine rs_cVi (n := 8) (rest := []) (As := [.int _]) vm_X3_has gw_559 (lane_o (by decide : (24 : Nat) ∈ laneL)) cq_2 dX10_ways_5 rfl rfl (Nat.le_of_ble_eq_true rfl) rfl (CI.mono H (fun r1 I2 X3 H => ?_))
  refine r_if_eq (n := 11) (tgt := 18) dX10_ways_8 (by decide) rfl (fun c => ?_) (fun c => ?_)
  · have H := H.1 c
    refine r_iconst (n := 19) (v := (-1)) dX10_ways_18 ki_m1 rfl ?_
    exact rs_iret dX10_ways_19 rfl H
  · have H := H.2 c
    refine r_iload_n (n := 12) 2 dX10_ways_11 rfl rfl ?_
    refine rs_cSi (n := 15) (rest := []) (As := [.int _]) sm_X10_isAhead gw_787 dX10_ways_12 rfl rfl (Nat.le_of_ble_eq_true rfl) rfl (CI.mono H (fun r4 I5 X6 H => ?_))
    refine r_if_ne (n := 18) (tgt := 20) dX10_ways_15 (by decide) rfl (fun c => ?_) (fun c => ?_)
    · have H := H.1 c
      refine r_aload_n (n := 21) 0 dX10_ways_20 rfl rfl ?_
      refine r_getR (n := 24) cls_9 9 fi_9_9 so_1 gw_328 dX10_ways_21 rfl sr_1_9 (by decide) ?_
      refine r_aload_n (n := 25) 0 dX10_ways_24 rfl rfl ?_
      refine r_getR (n := 28) cls_9 3 fi_9_3 so_1 gw_322 dX10_ways_25 rfl sr_1_3 (by decide) ?_
      refine r_getR (n := 31) cls_0 1 fi_0_1 (camp_o (by decide : (28 : Nat) ∈ campL)) gw_192 dX10_ways_28 rfl (camp_r1 (by decide : (28 : Nat) ∈ campL)) (camp_n1 (by decide : (28 : Nat) ∈ campL)) ?_
      refine r_iload_n (n := 32) 2 dX10_ways_31 rfl rfl ?_
      refine r_iconst (n := 33) (v := 0) dX10_ways_32 ki_0 rfl ?_
      refine r_iload_n (n := 34) 1 dX10_ways_33 rfl rfl ?_
      refine rs_cVv (n := 37) (rest := []) (As := [.ref _, .int _, .int _, .int _]) vm_X5_search gw_790 so_72 cq_4 dX10_ways_34 rfl rfl (Nat.le_of_ble_eq_true rfl) rfl (CV.mono H (fun I7 X8 H => ?_))
      refine r_aload_n (n := 38) 0 dX10_ways_37 rfl rfl ?_
      refine r_aload_n (n := 39) 0 dX10_ways_38 rfl rfl ?_
      refine r_getR (n := 42) cls_9 9 fi_9_9 so_1 gw_328 dX10_ways_39 rfl sr_1_9 (by decide) ?_
      refine rs_getI (n := 45) cls_4 8 fi_4_8 so_72 gw_240 dX10_ways_42 rfl ?_
      have H := H _ rfl
      refine rs_putI (n := 48) cls_9 14 fp_9_14 so_1 gw_333 dX10_ways_45 rfl ?_
      refine r_aload_n (n := 49) 0 dX10_ways_48 rfl rfl ?_
      refine r_aload_n (n := 50) 0 dX10_ways_49 rfl rfl ?_
      refine r_getR (n := 53) cls_9 9 fi_9_9 so_1 gw_328 dX10_ways_50 rfl sr_1_9 (by decide) ?_
      refine rs_getI (n := 56) cls_4 7 fi_4_7 so_72 gw_238 dX10_ways_53 rfl ?_
      refine r_i2l (n := 57) dX10_ways_56 rfl ?_
      refine r_lconst (n := 58) (v := 1) dX10_ways_57 (by decide) rfl ?_
      refine rs_cVv (n := 61) (rest := []) (As := [.long _, .long _]) vm_X10_tell gw_850 so_1 cq_9 dX10_ways_58 rfl rfl (Nat.le_of_ble_eq_true rfl) rfl (CV.mono H (fun I10 X11 H => ?_))
      refine r_iconst (n := 62) (v := 1) dX10_ways_61 ki_1 rfl ?_
      exact rs_iret dX10_ways_62 rfl H
    · have H := H.2 c
      refine r_iconst (n := 19) (v := (-1)) dX10_ways_18 ki_m1 rfl ?_
      exact rs_iret dX10_ways_19 rfl H
set_option maxRecDepth 20000 in
theorem en_X10_most {g : OG} {d : Nat} {I : IT} {X : XT} {K : Int32 → IT → XT → Prop} {l1 : Int32} {l2 : Int32} 
    (H : CI g d iX10_isAhead [.int l1] I X (fun r1 I2 X3 =>
        (r1 = 0 →
          K ((-1)) I2 X3) ∧
        (¬ r1 = 0 →
          CI g d iX10_isRow [.int l2] I2 X3 (fun r4 I5 X6 =>
            (¬ r4 = 0 →
              CI g d iX3_isEmpty [rf g 24] I5 X6 (fun r7 I8 X9 =>
                (r7 = 0 →
                  CV g d iX5_search [rf g 72, rf g (28 + 5), .int l1, .int 2, .int 0] I8 X9 (fun I10 X11 =>
                    vp_in l2 6 ∧
                    CI g d iX10_planInto [rf g 1, rf g (rowA l2.toNatClampNeg)] I10 X11 (fun r13 I14 X15 =>
                      K (I14 72 6) I14 X15))) ∧
                (¬ r7 = 0 →
                  K ((-4)) I8 X9))) ∧
            (r4 = 0 →
              K ((-1)) I5 X6))))) : CI g (d + 1) iX10_most [rf g 1, .int l1, .int l2] I X K := by
  refine ocall_of (by decide) (Nat.le_of_ble_eq_true rfl) ?_
  show SR g (d + 1) iX10_most 0 [(0, rf g 1), (1, .int l1), (2, .int l2)] I X (qI K)
  refine r_iload_n (n := 1) 1 dX10_most_0 rfl rfl ?_
  refine rs_cSi (n := 4) (rest := []) (As := [.int _]) sm_X10_isAhead gw_787 dX10_most_1 rfl rfl (Nat.le_of_ble_eq_true rfl) rfl (CI.mono H (fun r1 I2 X3 H => ?_))
  refine r_if_eq (n := 7) (tgt := 14) dX10_most_4 (by decide) rfl (fun c => ?_) (fun c => ?_)
  · have H := H.1 c
    refine r_iconst (n := 15) (v := (-1)) dX10_most_14 ki_m1 rfl ?_
    exact rs_iret dX10_most_15 rfl H
  · have H := H.2 c
    refine r_iload_n (n := 8) 2 dX10_most_7 rfl rfl ?_
    refine rs_cSi (n := 11) (rest := []) (As := [.int _]) sm_X10_isRow gw_375 dX10_most_8 rfl rfl (Nat.le_of_ble_eq_true rfl) rfl (CI.mono H (fun r4 I5 X6 H => ?_))
    refine r_if_ne (n := 14) (tgt := 16) dX10_most_11 (by decide) rfl (fun c => ?_) (fun c => ?_)
    · have H := H.1 c
      refine r_aload_n (n := 17) 0 dX10_most_16 rfl rfl ?_
      refine r_getR (n := 20) cls_9 2 fi_9_2 so_1 gw_321 dX10_most_17 rfl sr_1_2 (by decide) ?_
      refine rs_cVi (n := 23) (rest := []) (As := []) vm_X3_isEmpty gw_600 (lane_o (by decide : (24 : Nat) ∈ laneL)) cq_2 dX10_most_20 rfl rfl (Nat.le_of_ble_eq_true rfl) rfl (CI.mono H (fun r7 I8 X9 H => ?_))
      refine r_if_eq (n := 26) (tgt := 29) dX10_most_23 (by decide) rfl (fun c => ?_) (fun c => ?_)
      · have H := H.1 c
        refine r_aload_n (n := 30) 0 dX10_most_29 rfl rfl ?_
        refine r_getR (n := 33) cls_9 9 fi_9_9 so_1 gw_328 dX10_most_30 rfl sr_1_9 (by decide) ?_
        refine r_aload_n (n := 34) 0 dX10_most_33 rfl rfl ?_
        refine r_getR (n := 37) cls_9 3 fi_9_3 so_1 gw_322 dX10_most_34 rfl sr_1_3 (by decide) ?_
        refine r_getR (n := 40) cls_0 1 fi_0_1 (camp_o (by decide : (28 : Nat) ∈ campL)) gw_192 dX10_most_37 rfl (camp_r1 (by decide : (28 : Nat) ∈ campL)) (camp_n1 (by decide : (28 : Nat) ∈ campL)) ?_
        refine r_iload_n (n := 41) 1 dX10_most_40 rfl rfl ?_
        refine r_iconst (n := 42) (v := 2) dX10_most_41 ki_2 rfl ?_
        refine r_iconst (n := 43) (v := 0) dX10_most_42 ki_0 rfl ?_
        refine rs_cVv (n := 46) (rest := []) (As := [.ref _, .int _, .int _, .int _]) vm_X5_search gw_790 so_72 cq_4 dX10_most_43 rfl rfl (Nat.le_of_ble_eq_true rfl) rfl (CV.mono H (fun I10 X11 H => ?_))
        refine r_aload_n (n := 47) 0 dX10_most_46 rfl rfl ?_
        refine r_aload_n (n := 48) 0 dX10_most_47 rfl rfl ?_
        refine r_getR (n := 51) cls_9 0 fi_9_0 so_1 gw_319 dX10_most_48 rfl sr_1_0 (by decide) ?_
        refine r_iload_n (n := 52) 2 dX10_most_51 rfl rfl ?_
        obtain ⟨hi12, H⟩ := H
        refine r_aald (n := 53) (z := 6) (t0 := 3) (K := "OneMatch$Row") sa_2 (by decide) (fun _ => rfl) hi12 dX10_most_52 rfl (row_el hi12) (row_nz hi12) ?_
        refine rs_cVi (n := 56) (rest := []) (As := [.ref _]) vm_X10_planInto gw_837 so_1 cq_9 dX10_most_53 rfl rfl (Nat.le_of_ble_eq_true rfl) rfl (CI.mono H (fun r13 I14 X15 H => ?_))
        refine r_pop (n := 57) dX10_most_56 rfl rfl ?_
        refine r_aload_n (n := 58) 0 dX10_most_57 rfl rfl ?_
        refine r_getR (n := 61) cls_9 9 fi_9_9 so_1 gw_328 dX10_most_58 rfl sr_1_9 (by decide) ?_
        refine rs_getI (n := 64) cls_4 6 fi_4_6 so_72 gw_236 dX10_most_61 rfl ?_
        exact rs_iret dX10_most_64 rfl H
      · have H := H.2 c
        refine r_bipush (n := 28) (v := (-4)) dX10_most_26 kb_m4 rfl ?_
        exact rs_iret dX10_most_28 rfl H
    · have H := H.2 c
      refine r_iconst (n := 15) (v := (-1)) dX10_most_14 ki_m1 rfl ?_
      exact rs_iret dX10_most_15 rfl H
set_option maxRecDepth 20000 in
theorem en_X10_serve {g : OG} {d : Nat} {I : IT} {X : XT} {K : Int32 → IT → XT → Prop} {l1 : Int32} {l2 : Int32} 
    (H : CI g d iX10_isAhead [.int l1] I X (fun r1 I2 X3 =>
        (r1 = 0 →
          K ((-1)) I2 X3) ∧
        (¬ r1 = 0 →
          CI g d iX10_isRow [.int l2] I2 X3 (fun r4 I5 X6 =>
            (¬ r4 = 0 →
              CI g d iX3_isEmpty [rf g 24] I5 X6 (fun r7 I8 X9 =>
                (r7 = 0 →
                  CV g d iX5_search [rf g 72, rf g (28 + 5), .int l1, .int 3, .int 0] I8 X9 (fun I10 X11 =>
                    vp_in l2 6 ∧
                    CI g d iX10_planInto [rf g 1, rf g (rowA l2.toNatClampNeg)] I10 X11 (fun r13 I14 X15 =>
                      K r13 I14 X15))) ∧
                (¬ r7 = 0 →
                  K ((-4)) I8 X9))) ∧
            (r4 = 0 →
              K ((-1)) I5 X6))))) : CI g (d + 1) iX10_serve [rf g 1, .int l1, .int l2] I X K := by
  refine ocall_of (by decide) (Nat.le_of_ble_eq_true rfl) ?_
  show SR g (d + 1) iX10_serve 0 [(0, rf g 1), (1, .int l1), (2, .int l2)] I X (qI K)
  refine r_iload_n (n := 1) 1 dX10_serve_0 rfl rfl ?_
  refine rs_cSi (n := 4) (rest := []) (As := [.int _]) sm_X10_isAhead gw_787 dX10_serve_1 rfl rfl (Nat.le_of_ble_eq_true rfl) rfl (CI.mono H (fun r1 I2 X3 H => ?_))
  refine r_if_eq (n := 7) (tgt := 14) dX10_serve_4 (by decide) rfl (fun c => ?_) (fun c => ?_)
  · have H := H.1 c
    refine r_iconst (n := 15) (v := (-1)) dX10_serve_14 ki_m1 rfl ?_
    exact rs_iret dX10_serve_15 rfl H
  · have H := H.2 c
    refine r_iload_n (n := 8) 2 dX10_serve_7 rfl rfl ?_
    refine rs_cSi (n := 11) (rest := []) (As := [.int _]) sm_X10_isRow gw_375 dX10_serve_8 rfl rfl (Nat.le_of_ble_eq_true rfl) rfl (CI.mono H (fun r4 I5 X6 H => ?_))
    refine r_if_ne (n := 14) (tgt := 16) dX10_serve_11 (by decide) rfl (fun c => ?_) (fun c => ?_)
    · have H := H.1 c
      refine r_aload_n (n := 17) 0 dX10_serve_16 rfl rfl ?_
      refine r_getR (n := 20) cls_9 2 fi_9_2 so_1 gw_321 dX10_serve_17 rfl sr_1_2 (by decide) ?_
      refine rs_cVi (n := 23) (rest := []) (As := []) vm_X3_isEmpty gw_600 (lane_o (by decide : (24 : Nat) ∈ laneL)) cq_2 dX10_serve_20 rfl rfl (Nat.le_of_ble_eq_true rfl) rfl (CI.mono H (fun r7 I8 X9 H => ?_))
      refine r_if_eq (n := 26) (tgt := 29) dX10_serve_23 (by decide) rfl (fun c => ?_) (fun c => ?_)
      · have H := H.1 c
        refine r_aload_n (n := 30) 0 dX10_serve_29 rfl rfl ?_
        refine r_getR (n := 33) cls_9 9 fi_9_9 so_1 gw_328 dX10_serve_30 rfl sr_1_9 (by decide) ?_
        refine r_aload_n (n := 34) 0 dX10_serve_33 rfl rfl ?_
        refine r_getR (n := 37) cls_9 3 fi_9_3 so_1 gw_322 dX10_serve_34 rfl sr_1_3 (by decide) ?_
        refine r_getR (n := 40) cls_0 1 fi_0_1 (camp_o (by decide : (28 : Nat) ∈ campL)) gw_192 dX10_serve_37 rfl (camp_r1 (by decide : (28 : Nat) ∈ campL)) (camp_n1 (by decide : (28 : Nat) ∈ campL)) ?_
        refine r_iload_n (n := 41) 1 dX10_serve_40 rfl rfl ?_
        refine r_iconst (n := 42) (v := 3) dX10_serve_41 ki_3 rfl ?_
        refine r_iconst (n := 43) (v := 0) dX10_serve_42 ki_0 rfl ?_
        refine rs_cVv (n := 46) (rest := []) (As := [.ref _, .int _, .int _, .int _]) vm_X5_search gw_790 so_72 cq_4 dX10_serve_43 rfl rfl (Nat.le_of_ble_eq_true rfl) rfl (CV.mono H (fun I10 X11 H => ?_))
        refine r_aload_n (n := 47) 0 dX10_serve_46 rfl rfl ?_
        refine r_aload_n (n := 48) 0 dX10_serve_47 rfl rfl ?_
        refine r_getR (n := 51) cls_9 0 fi_9_0 so_1 gw_319 dX10_serve_48 rfl sr_1_0 (by decide) ?_
        refine r_iload_n (n := 52) 2 dX10_serve_51 rfl rfl ?_
        obtain ⟨hi12, H⟩ := H
        refine r_aald (n := 53) (z := 6) (t0 := 3) (K := "OneMatch$Row") sa_2 (by decide) (fun _ => rfl) hi12 dX10_serve_52 rfl (row_el hi12) (row_nz hi12) ?_
        refine rs_cVi (n := 56) (rest := []) (As := [.ref _]) vm_X10_planInto gw_837 so_1 cq_9 dX10_serve_53 rfl rfl (Nat.le_of_ble_eq_true rfl) rfl (CI.mono H (fun r13 I14 X15 H => ?_))
        exact rs_iret dX10_serve_56 rfl H
      · have H := H.2 c
        refine r_bipush (n := 28) (v := (-4)) dX10_serve_26 kb_m4 rfl ?_
        exact rs_iret dX10_serve_28 rfl H
    · have H := H.2 c
      refine r_iconst (n := 15) (v := (-1)) dX10_serve_14 ki_m1 rfl ?_
      exact rs_iret dX10_serve_15 rfl H
set_option maxRecDepth 20000 in
theorem en_X10_run {g : OG} {d : Nat} {I : IT} {X : XT} {K : Int32 → IT → XT → Prop} {l1 : Int32} 
    (H : CI g d iX10_isRow [.int l1] I X (fun r1 I2 X3 =>
        (¬ r1 = 0 →
          CI g d iX3_isEmpty [rf g 24] I2 X3 (fun r4 I5 X6 =>
            (r4 = 0 →
              vp_in l1 6 ∧
              CI g d iX7_lacksSizeOrRange [rf g (rowA l1.toNatClampNeg), .int 0, .int 10, .int 36] I5 X6 (fun r8 I9 X10 =>
                (r8 = 0 →
                  CV g d iX1_become [rf g 69, rf g (28 + 5)] I9 X10 (fun I11 X12 =>
                    SR g (d + 1) iX10_run 66 [(0, rf g 1), (2, rf g (rowA l1.toNatClampNeg)), (4, .int 0)] I11 X12 (qI K))) ∧
                (¬ r8 = 0 →
                  CI g d iX10_found [rf g 1, .int r8] I9 X10 (fun r13 I14 X15 =>
                    K r13 I14 X15)))) ∧
            (¬ r4 = 0 →
              K ((-4)) I5 X6))) ∧
        (r1 = 0 →
          K ((-1)) I2 X3))) : CI g (d + 1) iX10_run [rf g 1, .int l1] I X K := by
  refine ocall_of (by decide) (Nat.le_of_ble_eq_true rfl) ?_
  show SR g (d + 1) iX10_run 0 [(0, rf g 1), (1, .int l1)] I X (qI K)
  refine r_iload_n (n := 1) 1 dX10_run_0 rfl rfl ?_
  refine rs_cSi (n := 4) (rest := []) (As := [.int _]) sm_X10_isRow gw_375 dX10_run_1 rfl rfl (Nat.le_of_ble_eq_true rfl) rfl (CI.mono H (fun r1 I2 X3 H => ?_))
  refine r_if_ne (n := 7) (tgt := 9) dX10_run_4 (by decide) rfl (fun c => ?_) (fun c => ?_)
  · have H := H.1 c
    refine r_aload_n (n := 10) 0 dX10_run_9 rfl rfl ?_
    refine r_getR (n := 13) cls_9 2 fi_9_2 so_1 gw_321 dX10_run_10 rfl sr_1_2 (by decide) ?_
    refine rs_cVi (n := 16) (rest := []) (As := []) vm_X3_isEmpty gw_600 (lane_o (by decide : (24 : Nat) ∈ laneL)) cq_2 dX10_run_13 rfl rfl (Nat.le_of_ble_eq_true rfl) rfl (CI.mono H (fun r4 I5 X6 H => ?_))
    refine r_if_eq (n := 19) (tgt := 22) dX10_run_16 (by decide) rfl (fun c => ?_) (fun c => ?_)
    · have H := H.1 c
      refine r_aload_n (n := 23) 0 dX10_run_22 rfl rfl ?_
      refine r_getR (n := 26) cls_9 0 fi_9_0 so_1 gw_319 dX10_run_23 rfl sr_1_0 (by decide) ?_
      refine r_iload_n (n := 27) 1 dX10_run_26 rfl rfl ?_
      obtain ⟨hi7, H⟩ := H
      refine r_aald (n := 28) (z := 6) (t0 := 3) (K := "OneMatch$Row") sa_2 (by decide) (fun _ => rfl) hi7 dX10_run_27 rfl (row_el hi7) (row_nz hi7) ?_
      refine r_astore_n (n := 29) (lv' := [(2, .ref _), (0, .ref _), (1, .int _)]) dX10_run_28 rfl (by decide) rfl rfl ?_
      refine r_aload_n (n := 30) 0 dX10_run_29 rfl rfl ?_
      refine r_iconst (n := 31) (v := 0) dX10_run_30 ki_0 rfl ?_
      refine r_bipush (n := 33) (v := 10) dX10_run_31 kb_10 rfl ?_
      refine r_bipush (n := 35) (v := 36) dX10_run_33 kb_36 rfl ?_
      refine rs_cVi (n := 38) (rest := []) (As := [.int _, .int _, .int _]) vm_X7_lacksSizeOrRange gw_869 (row_o (row_mem hi7)) cq_6 dX10_run_35 rfl rfl (Nat.le_of_ble_eq_true rfl) rfl (CI.mono H (fun r8 I9 X10 H => ?_))
      refine r_istore_n (n := 39) (lv' := [(3, .int _), (2, .ref _), (0, .ref _), (1, .int _)]) dX10_run_38 rfl (by decide) rfl rfl ?_
      refine r_iload_n (n := 40) 0 dX10_run_39 rfl rfl ?_
      refine r_if_eq (n := 43) (tgt := 49) dX10_run_40 (by decide) rfl (fun c => ?_) (fun c => ?_)
      · have H := H.1 c
        refine r_aload_n (n := 50) 2 dX10_run_49 rfl rfl ?_
        refine r_getR (n := 53) cls_9 8 fi_9_8 so_1 gw_327 dX10_run_50 rfl sr_1_8 (by decide) ?_
        refine r_aload_n (n := 54) 2 dX10_run_53 rfl rfl ?_
        refine r_getR (n := 57) cls_9 3 fi_9_3 so_1 gw_322 dX10_run_54 rfl sr_1_3 (by decide) ?_
        refine r_getR (n := 60) cls_0 1 fi_0_1 (camp_o (by decide : (28 : Nat) ∈ campL)) gw_192 dX10_run_57 rfl (camp_r1 (by decide : (28 : Nat) ∈ campL)) (camp_n1 (by decide : (28 : Nat) ∈ campL)) ?_
        refine rs_cVv (n := 63) (rest := []) (As := [.ref _]) vm_X1_become gw_873 (fire_o (by decide : (69 : Nat) ∈ fireL)) cq_1 dX10_run_60 rfl rfl (Nat.le_of_ble_eq_true rfl) rfl (CV.mono H (fun I11 X12 H => ?_))
        refine r_iconst (n := 64) (v := 0) dX10_run_63 ki_0 rfl ?_
        refine r_istore (n := 66) (lv' := [(4, .int _), (3, .int _), (2, .ref _), (0, .ref _), (1, .int _)]) dX10_run_64 (by decide) rfl rfl ?_
        exact r_sub [3, 2, 0] rfl H
      · have H := H.2 c
        refine r_aload_n (n := 44) 2 dX10_run_43 rfl rfl ?_
        refine r_iload_n (n := 45) 0 dX10_run_44 rfl rfl ?_
        refine rs_cVi (n := 48) (rest := []) (As := [.int _]) vm_X10_found gw_378 so_1 cq_9 dX10_run_45 rfl rfl (Nat.le_of_ble_eq_true rfl) rfl (CI.mono H (fun r13 I14 X15 H => ?_))
        exact rs_iret dX10_run_48 rfl H
    · have H := H.2 c
      refine r_bipush (n := 21) (v := (-4)) dX10_run_19 kb_m4 rfl ?_
      exact rs_iret dX10_run_21 rfl H
  · have H := H.2 c
    refine r_iconst (n := 8) (v := (-1)) dX10_run_7 ki_m1 rfl ?_
    exact rs_iret dX10_run_8 rfl H
set_option maxRecDepth 20000 in
theorem rg_X10_run_66 {g : OG} {d : Nat} {I : IT} {X : XT} {K : Int32 → IT → XT → Prop} {p2 : Nat} {l4 : Int32} (hp2 : p2 ∈ rowL)
    (H : ((I p2 1) ≤ l4 →
        CI g d iX1_allWood [rf g 69] I X (fun r1 I2 X3 =>
          ∀ I4 : IT, I4 = set2 I2 1 14 r1 →
          K (I4 69 3) I4 X3)) ∧
      (¬ (I p2 1) ≤ l4 →
        CI g d iX7_get [rf g p2, .int l4] I X (fun r5 I6 X7 =>
          CI g d iX1_canMove [rf g 69, .int r5] I6 X7 (fun r8 I9 X10 =>
            (r8 = 0 →
              CV g d iX1_bring [rf g 69, .int 36] I9 X10 (fun I11 X12 =>
                CV g d iX1_pass [rf g 69] I11 X12 (fun I13 X14 =>
                  ∀ x15 : Int32, x15 = l4 + 1 →
                  SR g (d + 1) iX10_run 66 [(0, rf g 1), (2, rf g p2), (4, .int x15)] I13 X14 (qI K)))) ∧
            (¬ r8 = 0 →
              CV g d iX1_bring [rf g 69, .int r5] I9 X10 (fun I16 X17 =>
                CV g d iX1_pass [rf g 69] I16 X17 (fun I18 X19 =>
                  ∀ x20 : Int32, x20 = l4 + 1 →
                  SR g (d + 1) iX10_run 66 [(0, rf g 1), (2, rf g p2), (4, .int x20)] I18 X19 (qI K)))))))) : SR g (d + 1) iX10_run 66 [(0, rf g 1), (2, rf g p2), (4, .int l4)] I X (qI K) := by
  refine r_iload (n := 68) 2 dX10_run_66 rfl rfl ?_
  refine r_aload_n (n := 69) 1 dX10_run_68 rfl rfl ?_
  refine rs_getI (n := 72) cls_6 1 fi_6_1 (row_o hp2) gw_99 dX10_run_69 rfl ?_
  refine r_icmp_ge (n := 75) (tgt := 122) dX10_run_72 (by decide) rfl (fun c => ?_) (fun c => ?_)
  · have H := H.1 c
    refine r_aload_n (n := 123) 0 dX10_run_122 rfl rfl ?_
    refine r_aload_n (n := 124) 0 dX10_run_123 rfl rfl ?_
    refine r_getR (n := 127) cls_9 8 fi_9_8 so_1 gw_327 dX10_run_124 rfl sr_1_8 (by decide) ?_
    refine rs_cVi (n := 130) (rest := [.ref _]) (As := []) vm_X1_allWood gw_877 (fire_o (by decide : (69 : Nat) ∈ fireL)) cq_1 dX10_run_127 rfl rfl (Nat.le_of_ble_eq_true rfl) rfl (CI.mono H (fun r1 I2 X3 H => ?_))
    have H := H _ rfl
    refine rs_putI (n := 133) cls_9 14 fp_9_14 so_1 gw_333 dX10_run_130 rfl ?_
    refine r_aload_n (n := 134) 0 dX10_run_133 rfl rfl ?_
    refine r_getR (n := 137) cls_9 8 fi_9_8 so_1 gw_327 dX10_run_134 rfl sr_1_8 (by decide) ?_
    refine rs_getI (n := 140) cls_1 3 fi_1_3 (fire_o (by decide : (69 : Nat) ∈ fireL)) gw_168 dX10_run_137 rfl ?_
    exact rs_iret dX10_run_140 rfl H
  · have H := H.2 c
    refine r_aload_n (n := 76) 1 dX10_run_75 rfl rfl ?_
    refine r_iload (n := 78) 2 dX10_run_76 rfl rfl ?_
    refine rs_cVi (n := 81) (rest := []) (As := [.int _]) vm_X7_get gw_402 (row_o hp2) cq_6 dX10_run_78 rfl rfl (Nat.le_of_ble_eq_true rfl) rfl (CI.mono H (fun r5 I6 X7 H => ?_))
    refine r_istore (n := 83) (lv' := [(5, .int _), (0, .ref _), (2, .ref _), (4, .int _)]) dX10_run_81 (by decide) rfl rfl ?_
    refine r_aload_n (n := 84) 1 dX10_run_83 rfl rfl ?_
    refine r_getR (n := 87) cls_9 8 fi_9_8 so_1 gw_327 dX10_run_84 rfl sr_1_8 (by decide) ?_
    refine r_aload_n (n := 88) 1 dX10_run_87 rfl rfl ?_
    refine r_getR (n := 91) cls_9 8 fi_9_8 so_1 gw_327 dX10_run_88 rfl sr_1_8 (by decide) ?_
    refine r_iload (n := 93) 0 dX10_run_91 rfl rfl ?_
    refine rs_cVi (n := 96) (rest := [.ref _]) (As := [.int _]) vm_X1_canMove gw_874 (fire_o (by decide : (69 : Nat) ∈ fireL)) cq_1 dX10_run_93 rfl rfl (Nat.le_of_ble_eq_true rfl) rfl (CI.mono H (fun r8 I9 X10 H => ?_))
    refine r_if_eq (n := 99) (tgt := 104) dX10_run_96 (by decide) rfl (fun c => ?_) (fun c => ?_)
    · have H := H.1 c
      refine r_bipush (n := 106) (v := 36) dX10_run_104 kb_36 rfl ?_
      refine rs_cVv (n := 109) (rest := []) (As := [.int _]) vm_X1_bring gw_875 (fire_o (by decide : (69 : Nat) ∈ fireL)) cq_1 dX10_run_106 rfl rfl (Nat.le_of_ble_eq_true rfl) rfl (CV.mono H (fun I11 X12 H => ?_))
      refine r_aload_n (n := 110) 1 dX10_run_109 rfl rfl ?_
      refine r_getR (n := 113) cls_9 8 fi_9_8 so_1 gw_327 dX10_run_110 rfl sr_1_8 (by decide) ?_
      refine rs_cVv (n := 116) (rest := []) (As := []) vm_X1_pass gw_876 (fire_o (by decide : (69 : Nat) ∈ fireL)) cq_1 dX10_run_113 rfl rfl (Nat.le_of_ble_eq_true rfl) rfl (CV.mono H (fun I13 X14 H => ?_))
      have H := H _ rfl
      refine r_iinc (n := 119) (lv' := [(4, .int _), (5, .int _), (0, .ref _), (2, .ref _)]) 3 dX10_run_116 rfl rfl (by decide) rfl rfl ?_
      refine r_goto (n := 66) dX10_run_119 (by decide) ?_
      exact r_sub [2, 3, 0] rfl H
    · have H := H.2 c
      refine r_iload (n := 101) 0 dX10_run_99 rfl rfl ?_
      refine r_goto (n := 106) dX10_run_101 (by decide) ?_
      refine rs_cVv (n := 109) (rest := []) (As := [.int _]) vm_X1_bring gw_875 (fire_o (by decide : (69 : Nat) ∈ fireL)) cq_1 dX10_run_106 rfl rfl (Nat.le_of_ble_eq_true rfl) rfl (CV.mono H (fun I16 X17 H => ?_))
      refine r_aload_n (n := 110) 1 dX10_run_109 rfl rfl ?_
      refine r_getR (n := 113) cls_9 8 fi_9_8 so_1 gw_327 dX10_run_110 rfl sr_1_8 (by decide) ?_
      refine rs_cVv (n := 116) (rest := []) (As := []) vm_X1_pass gw_876 (fire_o (by decide : (69 : Nat) ∈ fireL)) cq_1 dX10_run_113 rfl rfl (Nat.le_of_ble_eq_true rfl) rfl (CV.mono H (fun I18 X19 H => ?_))
      have H := H _ rfl
      refine r_iinc (n := 119) (lv' := [(4, .int _), (5, .int _), (0, .ref _), (2, .ref _)]) 3 dX10_run_116 rfl rfl (by decide) rfl rfl ?_
      refine r_goto (n := 66) dX10_run_119 (by decide) ?_
      exact r_sub [2, 3, 0] rfl H
set_option maxRecDepth 20000 in
theorem en_X10_where {g : OG} {d : Nat} {I : IT} {X : XT} {K : Int32 → IT → XT → Prop}  
    (H : SR g (d + 1) iX10_where 10 [(0, rf g 1), (1, .int 0), (2, .int 0), (3, .int ((-9))), (4, .int 0)] I X (qI K)) : CI g (d + 1) iX10_where [rf g 1] I X K := by
  refine ocall_of (by decide) (Nat.le_of_ble_eq_true rfl) ?_
  show SR g (d + 1) iX10_where 0 [(0, rf g 1)] I X (qI K)
  refine r_iconst (n := 1) (v := 0) dX10_where_0 ki_0 rfl ?_
  refine r_istore_n (n := 2) (lv' := [(1, .int _), (0, .ref _)]) dX10_where_1 rfl (by decide) rfl rfl ?_
  refine r_iconst (n := 3) (v := 0) dX10_where_2 ki_0 rfl ?_
  refine r_istore_n (n := 4) (lv' := [(2, .int _), (1, .int _), (0, .ref _)]) dX10_where_3 rfl (by decide) rfl rfl ?_
  refine r_bipush (n := 6) (v := (-9)) dX10_where_4 kb_m9 rfl ?_
  refine r_istore_n (n := 7) (lv' := [(3, .int _), (2, .int _), (1, .int _), (0, .ref _)]) dX10_where_6 rfl (by decide) rfl rfl ?_
  refine r_iconst (n := 8) (v := 0) dX10_where_7 ki_0 rfl ?_
  refine r_istore (n := 10) (lv' := [(4, .int _), (3, .int _), (2, .int _), (1, .int _), (0, .ref _)]) dX10_where_8 (by decide) rfl rfl ?_
  exact r_sub [4, 3, 2, 1, 0] rfl H
set_option maxRecDepth 20000 in
theorem rg_X10_where_10 {g : OG} {d : Nat} {I : IT} {X : XT} {K : Int32 → IT → XT → Prop} {l1 : Int32} {l2 : Int32} {l3 : Int32} {l4 : Int32} 
    (H : ((I 24 4) ≤ l4 →
        ∀ I1 : IT, I1 = set2 I 1 14 l3 →
        K l1 I1 X) ∧
      (¬ (I 24 4) ≤ l4 →
        CI g d iX1_canStrike [rf g (28 + 2), .int l4] I X (fun r2 I3 X4 =>
          (r2 = 0 →
            ∀ x5 : Int32, x5 = l4 + 1 →
            SR g (d + 1) iX10_where 10 [(0, rf g 1), (1, .int l1), (2, .int l2), (3, .int l3), (4, .int x5)] I3 X4 (qI K)) ∧
          (¬ r2 = 0 →
            ∀ x6 : Int32, x6 = l1 ||| (1 <<< (l4 &&& 31)) →
            CI g d iX1_woodLasts [rf g (28 + 2), .int l4] I3 X4 (fun r7 I8 X9 =>
              (r7 ≤ l2 →
                ∀ x10 : Int32, x10 = l4 + 1 →
                SR g (d + 1) iX10_where 10 [(0, rf g 1), (1, .int x6), (2, .int l2), (3, .int l3), (4, .int x10)] I8 X9 (qI K)) ∧
              (¬ r7 ≤ l2 →
                ∀ x11 : Int32, x11 = l4 + 1 →
                SR g (d + 1) iX10_where 10 [(0, rf g 1), (1, .int x6), (2, .int r7), (3, .int l4), (4, .int x11)] I8 X9 (qI K))))))) : SR g (d + 1) iX10_where 10 [(0, rf g 1), (1, .int l1), (2, .int l2), (3, .int l3), (4, .int l4)] I X (qI K) := by
  refine r_iload (n := 12) 4 dX10_where_10 rfl rfl ?_
  refine r_aload_n (n := 13) 0 dX10_where_12 rfl rfl ?_
  refine r_getR (n := 16) cls_9 2 fi_9_2 so_1 gw_321 dX10_where_13 rfl sr_1_2 (by decide) ?_
  refine rs_getI (n := 19) cls_2 4 fi_2_4 (lane_o (by decide : (24 : Nat) ∈ laneL)) gw_138 dX10_where_16 rfl ?_
  refine r_icmp_ge (n := 22) (tgt := 76) dX10_where_19 (by decide) rfl (fun c => ?_) (fun c => ?_)
  · have H := H.1 c
    refine r_aload_n (n := 77) 0 dX10_where_76 rfl rfl ?_
    refine r_iload_n (n := 78) 3 dX10_where_77 rfl rfl ?_
    have H := H _ rfl
    refine rs_putI (n := 81) cls_9 14 fp_9_14 so_1 gw_333 dX10_where_78 rfl ?_
    refine r_iload_n (n := 82) 1 dX10_where_81 rfl rfl ?_
    exact rs_iret dX10_where_82 rfl H
  · have H := H.2 c
    refine r_aload_n (n := 23) 0 dX10_where_22 rfl rfl ?_
    refine r_getR (n := 26) cls_9 3 fi_9_3 so_1 gw_322 dX10_where_23 rfl sr_1_3 (by decide) ?_
    refine r_getR (n := 29) cls_0 0 fi_0_0 (camp_o (by decide : (28 : Nat) ∈ campL)) gw_190 dX10_where_26 rfl (camp_r0 (by decide : (28 : Nat) ∈ campL)) (camp_n0 (by decide : (28 : Nat) ∈ campL)) ?_
    refine r_iload (n := 31) 4 dX10_where_29 rfl rfl ?_
    refine rs_cVi (n := 34) (rest := []) (As := [.int _]) vm_X1_canStrike gw_645 (fire_o (camp_first (by decide : (28 : Nat) ∈ campL))) cq_1 dX10_where_31 rfl rfl (Nat.le_of_ble_eq_true rfl) rfl (CI.mono H (fun r2 I3 X4 H => ?_))
    refine r_if_eq (n := 37) (tgt := 70) dX10_where_34 (by decide) rfl (fun c => ?_) (fun c => ?_)
    · have H := H.1 c
      have H := H _ rfl
      refine r_iinc (n := 73) (lv' := [(4, .int _), (0, .ref _), (1, .int _), (2, .int _), (3, .int _)]) 4 dX10_where_70 rfl rfl (by decide) rfl rfl ?_
      refine r_goto (n := 10) dX10_where_73 (by decide) ?_
      exact r_sub [1, 2, 3, 4, 0] rfl H
    · have H := H.2 c
      refine r_iload_n (n := 38) 1 dX10_where_37 rfl rfl ?_
      refine r_iconst (n := 39) (v := 1) dX10_where_38 ki_1 rfl ?_
      refine r_iload (n := 41) 4 dX10_where_39 rfl rfl ?_
      refine r_ishl (n := 42) dX10_where_41 rfl ?_
      refine r_ior (n := 43) dX10_where_42 rfl ?_
      have H := H _ rfl
      refine r_istore_n (n := 44) (lv' := [(1, .int _), (0, .ref _), (2, .int _), (3, .int _), (4, .int _)]) dX10_where_43 rfl (by decide) rfl rfl ?_
      refine r_aload_n (n := 45) 1 dX10_where_44 rfl rfl ?_
      refine r_getR (n := 48) cls_9 3 fi_9_3 so_1 gw_322 dX10_where_45 rfl sr_1_3 (by decide) ?_
      refine r_getR (n := 51) cls_0 0 fi_0_0 (camp_o (by decide : (28 : Nat) ∈ campL)) gw_190 dX10_where_48 rfl (camp_r0 (by decide : (28 : Nat) ∈ campL)) (camp_n0 (by decide : (28 : Nat) ∈ campL)) ?_
      refine r_iload (n := 53) 4 dX10_where_51 rfl rfl ?_
      refine rs_cVi (n := 56) (rest := []) (As := [.int _]) vm_X1_woodLasts gw_885 (fire_o (camp_first (by decide : (28 : Nat) ∈ campL))) cq_1 dX10_where_53 rfl rfl (Nat.le_of_ble_eq_true rfl) rfl (CI.mono H (fun r7 I8 X9 H => ?_))
      refine r_istore (n := 58) (lv' := [(5, .int _), (1, .int _), (0, .ref _), (2, .int _), (3, .int _), (4, .int _)]) dX10_where_56 (by decide) rfl rfl ?_
      refine r_iload (n := 60) 0 dX10_where_58 rfl rfl ?_
      refine r_iload_n (n := 61) 3 dX10_where_60 rfl rfl ?_
      refine r_icmp_le (n := 64) (tgt := 70) dX10_where_61 (by decide) rfl (fun c => ?_) (fun c => ?_)
      · have H := H.1 c
        have H := H _ rfl
        refine r_iinc (n := 73) (lv' := [(4, .int _), (5, .int _), (1, .int _), (0, .ref _), (2, .int _), (3, .int _)]) 5 dX10_where_70 rfl rfl (by decide) rfl rfl ?_
        refine r_goto (n := 10) dX10_where_73 (by decide) ?_
        exact r_sub [3, 2, 4, 5, 0] rfl H
      · have H := H.2 c
        refine r_iload (n := 66) 0 dX10_where_64 rfl rfl ?_
        refine r_istore_n (n := 67) (lv' := [(2, .int _), (5, .int _), (1, .int _), (0, .ref _), (3, .int _), (4, .int _)]) dX10_where_66 rfl (by decide) rfl rfl ?_
        refine r_iload (n := 69) 5 dX10_where_67 rfl rfl ?_
        refine r_istore_n (n := 70) (lv' := [(3, .int _), (2, .int _), (5, .int _), (1, .int _), (0, .ref _), (4, .int _)]) dX10_where_69 rfl (by decide) rfl rfl ?_
        have H := H _ rfl
        refine r_iinc (n := 73) (lv' := [(4, .int _), (3, .int _), (2, .int _), (5, .int _), (1, .int _), (0, .ref _)]) 5 dX10_where_70 rfl rfl (by decide) rfl rfl ?_
        refine r_goto (n := 10) dX10_where_73 (by decide) ?_
        exact r_sub [5, 4, 2, 1, 0] rfl H
set_option maxRecDepth 20000 in
theorem en_X10_smoke {g : OG} {d : Nat} {I : IT} {X : XT} {K : Int32 → IT → XT → Prop} {l1 : Int32} 
    (H : CI g d iX10_isRow [.int l1] I X (fun r1 I2 X3 =>
        (¬ r1 = 0 →
          CI g d iX3_isEmpty [rf g 24] I2 X3 (fun r4 I5 X6 =>
            (r4 = 0 →
              vp_in l1 6 ∧
              CI g d iX3_allHouses [rf g 24] I5 X6 (fun r8 I9 X10 =>
                CI g d iX7_lacksSizeOrRange [rf g (rowA l1.toNatClampNeg), .int 1, .int 5, .int r8] I9 X10 (fun r11 I12 X13 =>
                  (r11 = 0 →
                    vp_in l1 6 ∧
                    CV g d iX8_search [rf g 91, rf g (28 + 2), rf g (rowA l1.toNatClampNeg)] I12 X13 (fun I15 X16 =>
                      ∀ I17 : IT, I17 = set2 I15 1 14 (I15 91 4) →
                      CV g d iX10_tell [rf g 1, .long ((I17 91 3).toInt64), .long 1] I17 X16 (fun I18 X19 =>
                        K 1 I18 X19))) ∧
                  (¬ r11 = 0 →
                    CI g d iX10_found [rf g 1, .int r11] I12 X13 (fun r20 I21 X22 =>
                      K r20 I21 X22))))) ∧
            (¬ r4 = 0 →
              K ((-4)) I5 X6))) ∧
        (r1 = 0 →
          K ((-1)) I2 X3))) : CI g (d + 1) iX10_smoke [rf g 1, .int l1] I X K := by
  refine ocall_of (by decide) (Nat.le_of_ble_eq_true rfl) ?_
  show SR g (d + 1) iX10_smoke 0 [(0, rf g 1), (1, .int l1)] I X (qI K)
  refine r_iload_n (n := 1) 1 dX10_smoke_0 rfl rfl ?_
  refine rs_cSi (n := 4) (rest := []) (As := [.int _]) sm_X10_isRow gw_375 dX10_smoke_1 rfl rfl (Nat.le_of_ble_eq_true rfl) rfl (CI.mono H (fun r1 I2 X3 H => ?_))
  refine r_if_ne (n := 7) (tgt := 9) dX10_smoke_4 (by decide) rfl (fun c => ?_) (fun c => ?_)
  · have H := H.1 c
    refine r_aload_n (n := 10) 0 dX10_smoke_9 rfl rfl ?_
    refine r_getR (n := 13) cls_9 2 fi_9_2 so_1 gw_321 dX10_smoke_10 rfl sr_1_2 (by decide) ?_
    refine rs_cVi (n := 16) (rest := []) (As := []) vm_X3_isEmpty gw_600 (lane_o (by decide : (24 : Nat) ∈ laneL)) cq_2 dX10_smoke_13 rfl rfl (Nat.le_of_ble_eq_true rfl) rfl (CI.mono H (fun r4 I5 X6 H => ?_))
    refine r_if_eq (n := 19) (tgt := 22) dX10_smoke_16 (by decide) rfl (fun c => ?_) (fun c => ?_)
    · have H := H.1 c
      refine r_aload_n (n := 23) 0 dX10_smoke_22 rfl rfl ?_
      refine r_getR (n := 26) cls_9 0 fi_9_0 so_1 gw_319 dX10_smoke_23 rfl sr_1_0 (by decide) ?_
      refine r_iload_n (n := 27) 1 dX10_smoke_26 rfl rfl ?_
      obtain ⟨hi7, H⟩ := H
      refine r_aald (n := 28) (z := 6) (t0 := 3) (K := "OneMatch$Row") sa_2 (by decide) (fun _ => rfl) hi7 dX10_smoke_27 rfl (row_el hi7) (row_nz hi7) ?_
      refine r_iconst (n := 29) (v := 1) dX10_smoke_28 ki_1 rfl ?_
      refine r_iconst (n := 30) (v := 5) dX10_smoke_29 ki_5 rfl ?_
      refine r_aload_n (n := 31) 0 dX10_smoke_30 rfl rfl ?_
      refine r_getR (n := 34) cls_9 2 fi_9_2 so_1 gw_321 dX10_smoke_31 rfl sr_1_2 (by decide) ?_
      refine rs_cVi (n := 37) (rest := [.int _, .int _, .ref _]) (As := []) vm_X3_allHouses gw_890 (lane_o (by decide : (24 : Nat) ∈ laneL)) cq_2 dX10_smoke_34 rfl rfl (Nat.le_of_ble_eq_true rfl) rfl (CI.mono H (fun r8 I9 X10 H => ?_))
      refine rs_cVi (n := 40) (rest := []) (As := [.int _, .int _, .int _]) vm_X7_lacksSizeOrRange gw_869 (row_o (row_mem hi7)) cq_6 dX10_smoke_37 rfl rfl (Nat.le_of_ble_eq_true rfl) rfl (CI.mono H (fun r11 I12 X13 H => ?_))
      refine r_istore_n (n := 41) (lv' := [(2, .int _), (0, .ref _), (1, .int _)]) dX10_smoke_40 rfl (by decide) rfl rfl ?_
      refine r_iload_n (n := 42) 0 dX10_smoke_41 rfl rfl ?_
      refine r_if_eq (n := 45) (tgt := 51) dX10_smoke_42 (by decide) rfl (fun c => ?_) (fun c => ?_)
      · have H := H.1 c
        refine r_aload_n (n := 52) 1 dX10_smoke_51 rfl rfl ?_
        refine r_getR (n := 55) cls_9 10 fi_9_10 so_1 gw_329 dX10_smoke_52 rfl sr_1_10 (by decide) ?_
        refine r_aload_n (n := 56) 1 dX10_smoke_55 rfl rfl ?_
        refine r_getR (n := 59) cls_9 3 fi_9_3 so_1 gw_322 dX10_smoke_56 rfl sr_1_3 (by decide) ?_
        refine r_getR (n := 62) cls_0 0 fi_0_0 (camp_o (by decide : (28 : Nat) ∈ campL)) gw_190 dX10_smoke_59 rfl (camp_r0 (by decide : (28 : Nat) ∈ campL)) (camp_n0 (by decide : (28 : Nat) ∈ campL)) ?_
        refine r_aload_n (n := 63) 1 dX10_smoke_62 rfl rfl ?_
        refine r_getR (n := 66) cls_9 0 fi_9_0 so_1 gw_319 dX10_smoke_63 rfl sr_1_0 (by decide) ?_
        refine r_iload_n (n := 67) 2 dX10_smoke_66 rfl rfl ?_
        obtain ⟨hi14, H⟩ := H
        refine r_aald (n := 68) (z := 6) (t0 := 3) (K := "OneMatch$Row") sa_2 (by decide) (fun _ => rfl) hi14 dX10_smoke_67 rfl (row_el hi14) (row_nz hi14) ?_
        refine rs_cVv (n := 71) (rest := []) (As := [.ref _, .ref _]) vm_X8_search gw_894 so_91 cq_7 dX10_smoke_68 rfl rfl (Nat.le_of_ble_eq_true rfl) rfl (CV.mono H (fun I15 X16 H => ?_))
        refine r_aload_n (n := 72) 1 dX10_smoke_71 rfl rfl ?_
        refine r_aload_n (n := 73) 1 dX10_smoke_72 rfl rfl ?_
        refine r_getR (n := 76) cls_9 10 fi_9_10 so_1 gw_329 dX10_smoke_73 rfl sr_1_10 (by decide) ?_
        refine rs_getI (n := 79) cls_7 4 fi_7_4 so_91 gw_278 dX10_smoke_76 rfl ?_
        have H := H _ rfl
        refine rs_putI (n := 82) cls_9 14 fp_9_14 so_1 gw_333 dX10_smoke_79 rfl ?_
        refine r_aload_n (n := 83) 1 dX10_smoke_82 rfl rfl ?_
        refine r_aload_n (n := 84) 1 dX10_smoke_83 rfl rfl ?_
        refine r_getR (n := 87) cls_9 10 fi_9_10 so_1 gw_329 dX10_smoke_84 rfl sr_1_10 (by decide) ?_
        refine rs_getI (n := 90) cls_7 3 fi_7_3 so_91 gw_276 dX10_smoke_87 rfl ?_
        refine r_i2l (n := 91) dX10_smoke_90 rfl ?_
        refine r_lconst (n := 92) (v := 1) dX10_smoke_91 (by decide) rfl ?_
        refine rs_cVv (n := 95) (rest := []) (As := [.long _, .long _]) vm_X10_tell gw_850 so_1 cq_9 dX10_smoke_92 rfl rfl (Nat.le_of_ble_eq_true rfl) rfl (CV.mono H (fun I18 X19 H => ?_))
        refine r_iconst (n := 96) (v := 1) dX10_smoke_95 ki_1 rfl ?_
        exact rs_iret dX10_smoke_96 rfl H
      · have H := H.2 c
        refine r_aload_n (n := 46) 1 dX10_smoke_45 rfl rfl ?_
        refine r_iload_n (n := 47) 0 dX10_smoke_46 rfl rfl ?_
        refine rs_cVi (n := 50) (rest := []) (As := [.int _]) vm_X10_found gw_378 so_1 cq_9 dX10_smoke_47 rfl rfl (Nat.le_of_ble_eq_true rfl) rfl (CI.mono H (fun r20 I21 X22 H => ?_))
        exact rs_iret dX10_smoke_50 rfl H
    · have H := H.2 c
      refine r_bipush (n := 21) (v := (-4)) dX10_smoke_19 kb_m4 rfl ?_
      exact rs_iret dX10_smoke_21 rfl H
  · have H := H.2 c
    refine r_iconst (n := 8) (v := (-1)) dX10_smoke_7 ki_m1 rfl ?_
    exact rs_iret dX10_smoke_8 rfl H
set_option maxRecDepth 20000 in
theorem en_X10_hides {g : OG} {d : Nat} {I : IT} {X : XT} {K : Int32 → IT → XT → Prop} {l1 : Int32} {l2 : Int32} 
    (H : CI g d iX10_isRow [.int l1] I X (fun r1 I2 X3 =>
        (r1 = 0 →
          K ((-1)) I2 X3) ∧
        (¬ r1 = 0 →
          (l2 < 0 →
            K ((-1)) I2 X3) ∧
          (¬ l2 < 0 →
            CI g d iX3_allHouses [rf g 24] I2 X3 (fun r4 I5 X6 =>
              (l2 ≤ r4 →
                CI g d iX3_isEmpty [rf g 24] I5 X6 (fun r7 I8 X9 =>
                  (r7 = 0 →
                    vp_in l1 6 ∧
                    CI g d iX3_allHouses [rf g 24] I8 X9 (fun r11 I12 X13 =>
                      CI g d iX7_lacksSizeOrRange [rf g (rowA l1.toNatClampNeg), .int 1, .int 5, .int r11] I12 X13 (fun r14 I15 X16 =>
                        (r14 = 0 →
                          CI g d iX7_union [rf g (rowA l1.toNatClampNeg)] I15 X16 (fun r17 I18 X19 =>
                            ∀ x20 : Int32, x20 = r17 &&& (l2 ^^^ ((-1))) →
                            SR g (d + 1) iX10_hides 84 [(0, rf g 1), (5, .int x20), (6, .int 0)] I18 X19 (qI K))) ∧
                        (¬ r14 = 0 →
                          CI g d iX10_found [rf g 1, .int r14] I15 X16 (fun r21 I22 X23 =>
                            K r21 I22 X23))))) ∧
                  (¬ r7 = 0 →
                    K ((-4)) I8 X9))) ∧
              (¬ l2 ≤ r4 →
                K ((-1)) I5 X6)))))) : CI g (d + 1) iX10_hides [rf g 1, .int l1, .int l2] I X K := by
  refine ocall_of (by decide) (Nat.le_of_ble_eq_true rfl) ?_
  show SR g (d + 1) iX10_hides 0 [(0, rf g 1), (1, .int l1), (2, .int l2)] I X (qI K)
  refine r_iload_n (n := 1) 1 dX10_hides_0 rfl rfl ?_
  refine rs_cSi (n := 4) (rest := []) (As := [.int _]) sm_X10_isRow gw_375 dX10_hides_1 rfl rfl (Nat.le_of_ble_eq_true rfl) rfl (CI.mono H (fun r1 I2 X3 H => ?_))
  refine r_if_eq (n := 7) (tgt := 22) dX10_hides_4 (by decide) rfl (fun c => ?_) (fun c => ?_)
  · have H := H.1 c
    refine r_iconst (n := 23) (v := (-1)) dX10_hides_22 ki_m1 rfl ?_
    exact rs_iret dX10_hides_23 rfl H
  · have H := H.2 c
    refine r_iload_n (n := 8) 2 dX10_hides_7 rfl rfl ?_
    refine r_if_lt (n := 11) (tgt := 22) dX10_hides_8 (by decide) rfl (fun c => ?_) (fun c => ?_)
    · have H := H.1 c
      refine r_iconst (n := 23) (v := (-1)) dX10_hides_22 ki_m1 rfl ?_
      exact rs_iret dX10_hides_23 rfl H
    · have H := H.2 c
      refine r_iload_n (n := 12) 2 dX10_hides_11 rfl rfl ?_
      refine r_aload_n (n := 13) 0 dX10_hides_12 rfl rfl ?_
      refine r_getR (n := 16) cls_9 2 fi_9_2 so_1 gw_321 dX10_hides_13 rfl sr_1_2 (by decide) ?_
      refine rs_cVi (n := 19) (rest := [.int _]) (As := []) vm_X3_allHouses gw_890 (lane_o (by decide : (24 : Nat) ∈ laneL)) cq_2 dX10_hides_16 rfl rfl (Nat.le_of_ble_eq_true rfl) rfl (CI.mono H (fun r4 I5 X6 H => ?_))
      refine r_icmp_le (n := 22) (tgt := 24) dX10_hides_19 (by decide) rfl (fun c => ?_) (fun c => ?_)
      · have H := H.1 c
        refine r_aload_n (n := 25) 0 dX10_hides_24 rfl rfl ?_
        refine r_getR (n := 28) cls_9 2 fi_9_2 so_1 gw_321 dX10_hides_25 rfl sr_1_2 (by decide) ?_
        refine rs_cVi (n := 31) (rest := []) (As := []) vm_X3_isEmpty gw_600 (lane_o (by decide : (24 : Nat) ∈ laneL)) cq_2 dX10_hides_28 rfl rfl (Nat.le_of_ble_eq_true rfl) rfl (CI.mono H (fun r7 I8 X9 H => ?_))
        refine r_if_eq (n := 34) (tgt := 37) dX10_hides_31 (by decide) rfl (fun c => ?_) (fun c => ?_)
        · have H := H.1 c
          refine r_aload_n (n := 38) 0 dX10_hides_37 rfl rfl ?_
          refine r_getR (n := 41) cls_9 0 fi_9_0 so_1 gw_319 dX10_hides_38 rfl sr_1_0 (by decide) ?_
          refine r_iload_n (n := 42) 1 dX10_hides_41 rfl rfl ?_
          obtain ⟨hi10, H⟩ := H
          refine r_aald (n := 43) (z := 6) (t0 := 3) (K := "OneMatch$Row") sa_2 (by decide) (fun _ => rfl) hi10 dX10_hides_42 rfl (row_el hi10) (row_nz hi10) ?_
          refine r_astore_n (n := 44) (lv' := [(3, .ref _), (0, .ref _), (1, .int _), (2, .int _)]) dX10_hides_43 rfl (by decide) rfl rfl ?_
          refine r_aload_n (n := 45) 0 dX10_hides_44 rfl rfl ?_
          refine r_iconst (n := 46) (v := 1) dX10_hides_45 ki_1 rfl ?_
          refine r_iconst (n := 47) (v := 5) dX10_hides_46 ki_5 rfl ?_
          refine r_aload_n (n := 48) 1 dX10_hides_47 rfl rfl ?_
          refine r_getR (n := 51) cls_9 2 fi_9_2 so_1 gw_321 dX10_hides_48 rfl sr_1_2 (by decide) ?_
          refine rs_cVi (n := 54) (rest := [.int _, .int _, .ref _]) (As := []) vm_X3_allHouses gw_890 (lane_o (by decide : (24 : Nat) ∈ laneL)) cq_2 dX10_hides_51 rfl rfl (Nat.le_of_ble_eq_true rfl) rfl (CI.mono H (fun r11 I12 X13 H => ?_))
          refine rs_cVi (n := 57) (rest := []) (As := [.int _, .int _, .int _]) vm_X7_lacksSizeOrRange gw_869 (row_o (row_mem hi10)) cq_6 dX10_hides_54 rfl rfl (Nat.le_of_ble_eq_true rfl) rfl (CI.mono H (fun r14 I15 X16 H => ?_))
          refine r_istore (n := 59) (lv' := [(4, .int _), (3, .ref _), (0, .ref _), (1, .int _), (2, .int _)]) dX10_hides_57 (by decide) rfl rfl ?_
          refine r_iload (n := 61) 0 dX10_hides_59 rfl rfl ?_
          refine r_if_eq (n := 64) (tgt := 71) dX10_hides_61 (by decide) rfl (fun c => ?_) (fun c => ?_)
          · have H := H.1 c
            refine r_aload_n (n := 72) 1 dX10_hides_71 rfl rfl ?_
            refine rs_cVi (n := 75) (rest := []) (As := []) vm_X7_union gw_917 (row_o (row_mem hi10)) cq_6 dX10_hides_72 rfl rfl (Nat.le_of_ble_eq_true rfl) rfl (CI.mono H (fun r17 I18 X19 H => ?_))
            refine r_iload_n (n := 76) 4 dX10_hides_75 rfl rfl ?_
            refine r_iconst (n := 77) (v := (-1)) dX10_hides_76 ki_m1 rfl ?_
            refine r_ixor (n := 78) dX10_hides_77 rfl ?_
            refine r_iand (n := 79) dX10_hides_78 rfl ?_
            have H := H _ rfl
            refine r_istore (n := 81) (lv' := [(5, .int _), (4, .int _), (3, .ref _), (0, .ref _), (1, .int _), (2, .int _)]) dX10_hides_79 (by decide) rfl rfl ?_
            refine r_iconst (n := 82) (v := 0) dX10_hides_81 ki_0 rfl ?_
            refine r_istore (n := 84) (lv' := [(6, .int _), (5, .int _), (4, .int _), (3, .ref _), (0, .ref _), (1, .int _), (2, .int _)]) dX10_hides_82 (by decide) rfl rfl ?_
            exact r_sub [4, 1, 0] rfl H
          · have H := H.2 c
            refine r_aload_n (n := 65) 2 dX10_hides_64 rfl rfl ?_
            refine r_iload (n := 67) 0 dX10_hides_65 rfl rfl ?_
            refine rs_cVi (n := 70) (rest := []) (As := [.int _]) vm_X10_found gw_378 so_1 cq_9 dX10_hides_67 rfl rfl (Nat.le_of_ble_eq_true rfl) rfl (CI.mono H (fun r21 I22 X23 H => ?_))
            exact rs_iret dX10_hides_70 rfl H
        · have H := H.2 c
          refine r_bipush (n := 36) (v := (-4)) dX10_hides_34 kb_m4 rfl ?_
          exact rs_iret dX10_hides_36 rfl H
      · have H := H.2 c
        refine r_iconst (n := 23) (v := (-1)) dX10_hides_22 ki_m1 rfl ?_
        exact rs_iret dX10_hides_23 rfl H
set_option maxRecDepth 20000 in
theorem rg_X10_hides_84 {g : OG} {d : Nat} {I : IT} {X : XT} {K : Int32 → IT → XT → Prop} {l5 : Int32} {l6 : Int32} 
    (H : ((I 24 4) ≤ l6 →
        K ((-9)) I X) ∧
      (¬ (I 24 4) ≤ l6 →
        (((l5 >>> (l6 &&& 31)) &&& 1) = 0 →
          ∀ x1 : Int32, x1 = l6 + 1 →
          SR g (d + 1) iX10_hides 84 [(0, rf g 1), (5, .int l5), (6, .int x1)] I X (qI K)) ∧
        (¬ ((l5 >>> (l6 &&& 31)) &&& 1) = 0 →
          K l6 I X))) : SR g (d + 1) iX10_hides 84 [(0, rf g 1), (5, .int l5), (6, .int l6)] I X (qI K) := by
  refine r_iload (n := 86) 2 dX10_hides_84 rfl rfl ?_
  refine r_aload_n (n := 87) 0 dX10_hides_86 rfl rfl ?_
  refine r_getR (n := 90) cls_9 2 fi_9_2 so_1 gw_321 dX10_hides_87 rfl sr_1_2 (by decide) ?_
  refine rs_getI (n := 93) cls_2 4 fi_2_4 (lane_o (by decide : (24 : Nat) ∈ laneL)) gw_138 dX10_hides_90 rfl ?_
  refine r_icmp_ge (n := 96) (tgt := 115) dX10_hides_93 (by decide) rfl (fun c => ?_) (fun c => ?_)
  · have H := H.1 c
    refine r_bipush (n := 117) (v := (-9)) dX10_hides_115 kb_m9 rfl ?_
    exact rs_iret dX10_hides_117 rfl H
  · have H := H.2 c
    refine r_iload (n := 98) 1 dX10_hides_96 rfl rfl ?_
    refine r_iload (n := 100) 2 dX10_hides_98 rfl rfl ?_
    refine r_ishr (n := 101) dX10_hides_100 rfl ?_
    refine r_iconst (n := 102) (v := 1) dX10_hides_101 ki_1 rfl ?_
    refine r_iand (n := 103) dX10_hides_102 rfl ?_
    refine r_if_eq (n := 106) (tgt := 109) dX10_hides_103 (by decide) rfl (fun c => ?_) (fun c => ?_)
    · have H := H.1 c
      have H := H _ rfl
      refine r_iinc (n := 112) (lv' := [(6, .int _), (0, .ref _), (5, .int _)]) 2 dX10_hides_109 rfl rfl (by decide) rfl rfl ?_
      refine r_goto (n := 84) dX10_hides_112 (by decide) ?_
      exact r_sub [1, 2, 0] rfl H
    · have H := H.2 c
      refine r_iload (n := 108) 2 dX10_hides_106 rfl rfl ?_
      exact rs_iret dX10_hides_108 rfl H
set_option maxRecDepth 20000 in
theorem en_X10_spring {g : OG} {d : Nat} {I : IT} {X : XT} {K : Int32 → IT → XT → Prop} {l1 : Int32} {l2 : Int32} 
    (H : CI g d iX3_has [rf g 24, .int l1] I X (fun r1 I2 X3 =>
        (r1 = 0 →
          K ((-1)) I2 X3) ∧
        (¬ r1 = 0 →
          (l2 < 0 →
            K ((-1)) I2 X3) ∧
          (¬ l2 < 0 →
            (l2 ≤ 20 →
              CI g d iX1_woodFor [rf g (28 + 5), .int l1, .int l2] I2 X3 (fun r4 I5 X6 =>
                K r4 I5 X6)) ∧
            (¬ l2 ≤ 20 →
              K ((-1)) I2 X3))))) : CI g (d + 1) iX10_spring [rf g 1, .int l1, .int l2] I X K := by
  refine ocall_of (by decide) (Nat.le_of_ble_eq_true rfl) ?_
  show SR g (d + 1) iX10_spring 0 [(0, rf g 1), (1, .int l1), (2, .int l2)] I X (qI K)
  refine r_aload_n (n := 1) 0 dX10_spring_0 rfl rfl ?_
  refine r_getR (n := 4) cls_9 2 fi_9_2 so_1 gw_321 dX10_spring_1 rfl sr_1_2 (by decide) ?_
  refine r_iload_n (n := 5) 1 dX10_spring_4 rfl rfl ?_
  refine rs_cVi (n := 8) (rest := []) (As := [.int _]) vm_X3_has gw_559 (lane_o (by decide : (24 : Nat) ∈ laneL)) cq_2 dX10_spring_5 rfl rfl (Nat.le_of_ble_eq_true rfl) rfl (CI.mono H (fun r1 I2 X3 H => ?_))
  refine r_if_eq (n := 11) (tgt := 21) dX10_spring_8 (by decide) rfl (fun c => ?_) (fun c => ?_)
  · have H := H.1 c
    refine r_iconst (n := 22) (v := (-1)) dX10_spring_21 ki_m1 rfl ?_
    exact rs_iret dX10_spring_22 rfl H
  · have H := H.2 c
    refine r_iload_n (n := 12) 2 dX10_spring_11 rfl rfl ?_
    refine r_if_lt (n := 15) (tgt := 21) dX10_spring_12 (by decide) rfl (fun c => ?_) (fun c => ?_)
    · have H := H.1 c
      refine r_iconst (n := 22) (v := (-1)) dX10_spring_21 ki_m1 rfl ?_
      exact rs_iret dX10_spring_22 rfl H
    · have H := H.2 c
      refine r_iload_n (n := 16) 2 dX10_spring_15 rfl rfl ?_
      refine r_bipush (n := 18) (v := 20) dX10_spring_16 kb_20 rfl ?_
      refine r_icmp_le (n := 21) (tgt := 23) dX10_spring_18 (by decide) rfl (fun c => ?_) (fun c => ?_)
      · have H := H.1 c
        refine r_aload_n (n := 24) 0 dX10_spring_23 rfl rfl ?_
        refine r_getR (n := 27) cls_9 3 fi_9_3 so_1 gw_322 dX10_spring_24 rfl sr_1_3 (by decide) ?_
        refine r_getR (n := 30) cls_0 1 fi_0_1 (camp_o (by decide : (28 : Nat) ∈ campL)) gw_192 dX10_spring_27 rfl (camp_r1 (by decide : (28 : Nat) ∈ campL)) (camp_n1 (by decide : (28 : Nat) ∈ campL)) ?_
        refine r_iload_n (n := 31) 1 dX10_spring_30 rfl rfl ?_
        refine r_iload_n (n := 32) 2 dX10_spring_31 rfl rfl ?_
        refine rs_cVi (n := 35) (rest := []) (As := [.int _, .int _]) vm_X1_woodFor gw_617 (fire_o (camp_now (by decide : (28 : Nat) ∈ campL))) cq_1 dX10_spring_32 rfl rfl (Nat.le_of_ble_eq_true rfl) rfl (CI.mono H (fun r4 I5 X6 H => ?_))
        exact rs_iret dX10_spring_35 rfl H
      · have H := H.2 c
        refine r_iconst (n := 22) (v := (-1)) dX10_spring_21 ki_m1 rfl ?_
        exact rs_iret dX10_spring_22 rfl H
set_option maxRecDepth 20000 in
theorem en_X10_odds {g : OG} {d : Nat} {I : IT} {X : XT} {K : Int32 → IT → XT → Prop} {l1 : Int32} {l2 : Int32} {l3 : Int32} 
    (H : CI g d iX3_has [rf g 24, .int l1] I X (fun r1 I2 X3 =>
        (r1 = 0 →
          K ((-1)) I2 X3) ∧
        (¬ r1 = 0 →
          CI g d iX10_isRow [.int l2] I2 X3 (fun r4 I5 X6 =>
            (r4 = 0 →
              K ((-1)) I5 X6) ∧
            (¬ r4 = 0 →
              (l3 < 0 →
                K ((-1)) I5 X6) ∧
              (¬ l3 < 0 →
                (l3 ≤ 12 →
                  vp_in l2 6 ∧
                  CI g d iX7_lacksSizeOrRange [rf g (rowA l2.toNatClampNeg), .int 0, .int 4, .int 36] I5 X6 (fun r8 I9 X10 =>
                    (r8 = 0 →
                      vp_in l2 6 ∧
                      CV g d iX4_reckon [rf g 111, rf g (28 + 5), .int l1, rf g (rowA l2.toNatClampNeg), .int l3] I9 X10 (fun I12 X13 =>
                        CV g d iX10_tell [rf g 1, .long (X13.1 111 4), .long (X13.1 111 5)] I12 X13 (fun I14 X15 =>
                          K 1 I14 X15))) ∧
                    (¬ r8 = 0 →
                      CI g d iX10_found [rf g 1, .int r8] I9 X10 (fun r16 I17 X18 =>
                        K r16 I17 X18)))) ∧
                (¬ l3 ≤ 12 →
                  K ((-1)) I5 X6))))))) : CI g (d + 1) iX10_odds [rf g 1, .int l1, .int l2, .int l3] I X K := by
  refine ocall_of (by decide) (Nat.le_of_ble_eq_true rfl) ?_
  show SR g (d + 1) iX10_odds 0 [(0, rf g 1), (1, .int l1), (2, .int l2), (3, .int l3)] I X (qI K)
  refine r_aload_n (n := 1) 0 dX10_odds_0 rfl rfl ?_
  refine r_getR (n := 4) cls_9 2 fi_9_2 so_1 gw_321 dX10_odds_1 rfl sr_1_2 (by decide) ?_
  refine r_iload_n (n := 5) 1 dX10_odds_4 rfl rfl ?_
  refine rs_cVi (n := 8) (rest := []) (As := [.int _]) vm_X3_has gw_559 (lane_o (by decide : (24 : Nat) ∈ laneL)) cq_2 dX10_odds_5 rfl rfl (Nat.le_of_ble_eq_true rfl) rfl (CI.mono H (fun r1 I2 X3 H => ?_))
  refine r_if_eq (n := 11) (tgt := 28) dX10_odds_8 (by decide) rfl (fun c => ?_) (fun c => ?_)
  · have H := H.1 c
    refine r_iconst (n := 29) (v := (-1)) dX10_odds_28 ki_m1 rfl ?_
    exact rs_iret dX10_odds_29 rfl H
  · have H := H.2 c
    refine r_iload_n (n := 12) 2 dX10_odds_11 rfl rfl ?_
    refine rs_cSi (n := 15) (rest := []) (As := [.int _]) sm_X10_isRow gw_375 dX10_odds_12 rfl rfl (Nat.le_of_ble_eq_true rfl) rfl (CI.mono H (fun r4 I5 X6 H => ?_))
    refine r_if_eq (n := 18) (tgt := 28) dX10_odds_15 (by decide) rfl (fun c => ?_) (fun c => ?_)
    · have H := H.1 c
      refine r_iconst (n := 29) (v := (-1)) dX10_odds_28 ki_m1 rfl ?_
      exact rs_iret dX10_odds_29 rfl H
    · have H := H.2 c
      refine r_iload_n (n := 19) 3 dX10_odds_18 rfl rfl ?_
      refine r_if_lt (n := 22) (tgt := 28) dX10_odds_19 (by decide) rfl (fun c => ?_) (fun c => ?_)
      · have H := H.1 c
        refine r_iconst (n := 29) (v := (-1)) dX10_odds_28 ki_m1 rfl ?_
        exact rs_iret dX10_odds_29 rfl H
      · have H := H.2 c
        refine r_iload_n (n := 23) 3 dX10_odds_22 rfl rfl ?_
        refine r_bipush (n := 25) (v := 12) dX10_odds_23 kb_12 rfl ?_
        refine r_icmp_le (n := 28) (tgt := 30) dX10_odds_25 (by decide) rfl (fun c => ?_) (fun c => ?_)
        · have H := H.1 c
          refine r_aload_n (n := 31) 0 dX10_odds_30 rfl rfl ?_
          refine r_getR (n := 34) cls_9 0 fi_9_0 so_1 gw_319 dX10_odds_31 rfl sr_1_0 (by decide) ?_
          refine r_iload_n (n := 35) 2 dX10_odds_34 rfl rfl ?_
          obtain ⟨hi7, H⟩ := H
          refine r_aald (n := 36) (z := 6) (t0 := 3) (K := "OneMatch$Row") sa_2 (by decide) (fun _ => rfl) hi7 dX10_odds_35 rfl (row_el hi7) (row_nz hi7) ?_
          refine r_iconst (n := 37) (v := 0) dX10_odds_36 ki_0 rfl ?_
          refine r_iconst (n := 38) (v := 4) dX10_odds_37 ki_4 rfl ?_
          refine r_bipush (n := 40) (v := 36) dX10_odds_38 kb_36 rfl ?_
          refine rs_cVi (n := 43) (rest := []) (As := [.int _, .int _, .int _]) vm_X7_lacksSizeOrRange gw_869 (row_o (row_mem hi7)) cq_6 dX10_odds_40 rfl rfl (Nat.le_of_ble_eq_true rfl) rfl (CI.mono H (fun r8 I9 X10 H => ?_))
          refine r_istore (n := 45) (lv' := [(4, .int _), (0, .ref _), (1, .int _), (2, .int _), (3, .int _)]) dX10_odds_43 (by decide) rfl rfl ?_
          refine r_iload (n := 47) 0 dX10_odds_45 rfl rfl ?_
          refine r_if_eq (n := 50) (tgt := 57) dX10_odds_47 (by decide) rfl (fun c => ?_) (fun c => ?_)
          · have H := H.1 c
            refine r_aload_n (n := 58) 1 dX10_odds_57 rfl rfl ?_
            refine r_getR (n := 61) cls_9 11 fi_9_11 so_1 gw_330 dX10_odds_58 rfl sr_1_11 (by decide) ?_
            refine r_aload_n (n := 62) 1 dX10_odds_61 rfl rfl ?_
            refine r_getR (n := 65) cls_9 3 fi_9_3 so_1 gw_322 dX10_odds_62 rfl sr_1_3 (by decide) ?_
            refine r_getR (n := 68) cls_0 1 fi_0_1 (camp_o (by decide : (28 : Nat) ∈ campL)) gw_192 dX10_odds_65 rfl (camp_r1 (by decide : (28 : Nat) ∈ campL)) (camp_n1 (by decide : (28 : Nat) ∈ campL)) ?_
            refine r_iload_n (n := 69) 2 dX10_odds_68 rfl rfl ?_
            refine r_aload_n (n := 70) 1 dX10_odds_69 rfl rfl ?_
            refine r_getR (n := 73) cls_9 0 fi_9_0 so_1 gw_319 dX10_odds_70 rfl sr_1_0 (by decide) ?_
            refine r_iload_n (n := 74) 3 dX10_odds_73 rfl rfl ?_
            obtain ⟨hi11, H⟩ := H
            refine r_aald (n := 75) (z := 6) (t0 := 3) (K := "OneMatch$Row") sa_2 (by decide) (fun _ => rfl) hi11 dX10_odds_74 rfl (row_el hi11) (row_nz hi11) ?_
            refine r_iload_n (n := 76) 4 dX10_odds_75 rfl rfl ?_
            refine rs_cVv (n := 79) (rest := []) (As := [.ref _, .int _, .ref _, .int _]) vm_X4_reckon gw_929 so_111 cq_3 dX10_odds_76 rfl rfl (Nat.le_of_ble_eq_true rfl) rfl (CV.mono H (fun I12 X13 H => ?_))
            refine r_aload_n (n := 80) 1 dX10_odds_79 rfl rfl ?_
            refine r_aload_n (n := 81) 1 dX10_odds_80 rfl rfl ?_
            refine r_getR (n := 84) cls_9 11 fi_9_11 so_1 gw_330 dX10_odds_81 rfl sr_1_11 (by decide) ?_
            refine rs_getL (n := 87) cls_3 4 fi_3_4 so_111 gw_303 dX10_odds_84 rfl ?_
            refine r_aload_n (n := 88) 1 dX10_odds_87 rfl rfl ?_
            refine r_getR (n := 91) cls_9 11 fi_9_11 so_1 gw_330 dX10_odds_88 rfl sr_1_11 (by decide) ?_
            refine rs_getL (n := 94) cls_3 5 fi_3_5 so_111 gw_305 dX10_odds_91 rfl ?_
            refine rs_cVv (n := 97) (rest := []) (As := [.long _, .long _]) vm_X10_tell gw_850 so_1 cq_9 dX10_odds_94 rfl rfl (Nat.le_of_ble_eq_true rfl) rfl (CV.mono H (fun I14 X15 H => ?_))
            refine r_iconst (n := 98) (v := 1) dX10_odds_97 ki_1 rfl ?_
            exact rs_iret dX10_odds_98 rfl H
          · have H := H.2 c
            refine r_aload_n (n := 51) 1 dX10_odds_50 rfl rfl ?_
            refine r_iload (n := 53) 0 dX10_odds_51 rfl rfl ?_
            refine rs_cVi (n := 56) (rest := []) (As := [.int _]) vm_X10_found gw_378 so_1 cq_9 dX10_odds_53 rfl rfl (Nat.le_of_ble_eq_true rfl) rfl (CI.mono H (fun r16 I17 X18 H => ?_))
            exact rs_iret dX10_odds_56 rfl H
        · have H := H.2 c
          refine r_iconst (n := 29) (v := (-1)) dX10_odds_28 ki_m1 rfl ?_
          exact rs_iret dX10_odds_29 rfl H
set_option maxRecDepth 20000 in
theorem en_X10_lots {g : OG} {d : Nat} {I : IT} {X : XT} {K : Int32 → IT → XT → Prop} {l1 : Int32} {l2 : Int32} 
    (H : (l1 < 1 →
        K ((-1)) I X) ∧
      (¬ l1 < 1 →
        (10 < l1 →
          K ((-1)) I X) ∧
        (¬ 10 < l1 →
          (l2 < 1 →
            K ((-1)) I X) ∧
          (¬ l2 < 1 →
            (l2 < 2147483647 →
              CI g d iX3_isEmpty [rf g 24] I X (fun r1 I2 X3 =>
                (r1 = 0 →
                  CI g d iX0_hasRoom [rf g 28, .int (2 * l1)] I2 X3 (fun r4 I5 X6 =>
                    (¬ r4 = 0 →
                      SR g (d + 1) iX10_lots 59 [(0, rf g 1), (1, .int l1), (3, .int l2), (4, .int 0)] I5 X6 (qI K)) ∧
                    (r4 = 0 →
                      K ((-2)) I5 X6))) ∧
                (¬ r1 = 0 →
                  K ((-4)) I2 X3))) ∧
            (¬ l2 < 2147483647 →
              K ((-1)) I X))))) : CI g (d + 1) iX10_lots [rf g 1, .int l1, .int l2] I X K := by
  refine ocall_of (by decide) (Nat.le_of_ble_eq_true rfl) ?_
  show SR g (d + 1) iX10_lots 0 [(0, rf g 1), (1, .int l1), (2, .int l2)] I X (qI K)
  refine r_iload_n (n := 1) 1 dX10_lots_0 rfl rfl ?_
  refine r_iconst (n := 2) (v := 1) dX10_lots_1 ki_1 rfl ?_
  refine r_icmp_lt (n := 5) (tgt := 23) dX10_lots_2 (by decide) rfl (fun c => ?_) (fun c => ?_)
  · have H := H.1 c
    refine r_iconst (n := 24) (v := (-1)) dX10_lots_23 ki_m1 rfl ?_
    exact rs_iret dX10_lots_24 rfl H
  · have H := H.2 c
    refine r_iload_n (n := 6) 1 dX10_lots_5 rfl rfl ?_
    refine r_bipush (n := 8) (v := 10) dX10_lots_6 kb_10 rfl ?_
    refine r_icmp_gt (n := 11) (tgt := 23) dX10_lots_8 (by decide) rfl (fun c => ?_) (fun c => ?_)
    · have H := H.1 c
      refine r_iconst (n := 24) (v := (-1)) dX10_lots_23 ki_m1 rfl ?_
      exact rs_iret dX10_lots_24 rfl H
    · have H := H.2 c
      refine r_iload_n (n := 12) 2 dX10_lots_11 rfl rfl ?_
      refine r_iconst (n := 13) (v := 1) dX10_lots_12 ki_1 rfl ?_
      refine r_icmp_lt (n := 16) (tgt := 23) dX10_lots_13 (by decide) rfl (fun c => ?_) (fun c => ?_)
      · have H := H.1 c
        refine r_iconst (n := 24) (v := (-1)) dX10_lots_23 ki_m1 rfl ?_
        exact rs_iret dX10_lots_24 rfl H
      · have H := H.2 c
        refine r_iload_n (n := 17) 2 dX10_lots_16 rfl rfl ?_
        refine r_ldcw (n := 20) (v := 2147483647) dX10_lots_17 gw_952 rfl ?_
        refine r_icmp_lt (n := 23) (tgt := 25) dX10_lots_20 (by decide) rfl (fun c => ?_) (fun c => ?_)
        · have H := H.1 c
          refine r_aload_n (n := 26) 0 dX10_lots_25 rfl rfl ?_
          refine r_getR (n := 29) cls_9 2 fi_9_2 so_1 gw_321 dX10_lots_26 rfl sr_1_2 (by decide) ?_
          refine rs_cVi (n := 32) (rest := []) (As := []) vm_X3_isEmpty gw_600 (lane_o (by decide : (24 : Nat) ∈ laneL)) cq_2 dX10_lots_29 rfl rfl (Nat.le_of_ble_eq_true rfl) rfl (CI.mono H (fun r1 I2 X3 H => ?_))
          refine r_if_eq (n := 35) (tgt := 38) dX10_lots_32 (by decide) rfl (fun c => ?_) (fun c => ?_)
          · have H := H.1 c
            refine r_aload_n (n := 39) 0 dX10_lots_38 rfl rfl ?_
            refine r_getR (n := 42) cls_9 3 fi_9_3 so_1 gw_322 dX10_lots_39 rfl sr_1_3 (by decide) ?_
            refine r_iconst (n := 43) (v := 2) dX10_lots_42 ki_2 rfl ?_
            refine r_iload_n (n := 44) 1 dX10_lots_43 rfl rfl ?_
            refine r_imul (n := 45) dX10_lots_44 rfl ?_
            refine rs_cVi (n := 48) (rest := []) (As := [.int _]) vm_X0_hasRoom gw_650 (camp_o (by decide : (28 : Nat) ∈ campL)) cq_0 dX10_lots_45 rfl rfl (Nat.le_of_ble_eq_true rfl) rfl (CI.mono H (fun r4 I5 X6 H => ?_))
            refine r_if_ne (n := 51) (tgt := 54) dX10_lots_48 (by decide) rfl (fun c => ?_) (fun c => ?_)
            · have H := H.1 c
              refine r_iload_n (n := 55) 2 dX10_lots_54 rfl rfl ?_
              refine r_istore_n (n := 56) (lv' := [(3, .int _), (0, .ref _), (1, .int _), (2, .int _)]) dX10_lots_55 rfl (by decide) rfl rfl ?_
              refine r_iconst (n := 57) (v := 0) dX10_lots_56 ki_0 rfl ?_
              refine r_istore (n := 59) (lv' := [(4, .int _), (3, .int _), (0, .ref _), (1, .int _), (2, .int _)]) dX10_lots_57 (by decide) rfl rfl ?_
              exact r_sub [2, 3, 1, 0] rfl H
            · have H := H.2 c
              refine r_bipush (n := 53) (v := (-2)) dX10_lots_51 kb_m2 rfl ?_
              exact rs_iret dX10_lots_53 rfl H
          · have H := H.2 c
            refine r_bipush (n := 37) (v := (-4)) dX10_lots_35 kb_m4 rfl ?_
            exact rs_iret dX10_lots_37 rfl H
        · have H := H.2 c
          refine r_iconst (n := 24) (v := (-1)) dX10_lots_23 ki_m1 rfl ?_
          exact rs_iret dX10_lots_24 rfl H
set_option maxRecDepth 20000 in
theorem rg_X10_lots_59 {g : OG} {d : Nat} {I : IT} {X : XT} {K : Int32 → IT → XT → Prop} {l1 : Int32} {l3 : Int32} {l4 : Int32} 
    (H : (l1 ≤ l4 →
        CI g d iX1_alight [rf g (28 + 5)] I X (fun r1 I2 X3 =>
          K r1 I2 X3)) ∧
      (¬ l1 ≤ l4 →
        ∀ x4 : Int32, x4 = ((l3.toInt64 * 48271) - (l3.toInt64 * 48271) / 2147483647 * 2147483647).toInt32 →
        CV g d iX10_carryByLot [rf g 1, .int x4] I X (fun I5 X6 =>
          CV g d iX0_act [rf g 28, .int 36] I5 X6 (fun I7 X8 =>
            ∀ x9 : Int32, x9 = l4 + 1 →
            SR g (d + 1) iX10_lots 59 [(0, rf g 1), (1, .int l1), (3, .int x4), (4, .int x9)] I7 X8 (qI K))))) : SR g (d + 1) iX10_lots 59 [(0, rf g 1), (1, .int l1), (3, .int l3), (4, .int l4)] I X (qI K) := by
  refine r_iload (n := 61) 3 dX10_lots_59 rfl rfl ?_
  refine r_iload_n (n := 62) 1 dX10_lots_61 rfl rfl ?_
  refine r_icmp_ge (n := 65) (tgt := 97) dX10_lots_62 (by decide) rfl (fun c => ?_) (fun c => ?_)
  · have H := H.1 c
    refine r_aload_n (n := 98) 0 dX10_lots_97 rfl rfl ?_
    refine r_getR (n := 101) cls_9 3 fi_9_3 so_1 gw_322 dX10_lots_98 rfl sr_1_3 (by decide) ?_
    refine r_getR (n := 104) cls_0 1 fi_0_1 (camp_o (by decide : (28 : Nat) ∈ campL)) gw_192 dX10_lots_101 rfl (camp_r1 (by decide : (28 : Nat) ∈ campL)) (camp_n1 (by decide : (28 : Nat) ∈ campL)) ?_
    refine rs_cVi (n := 107) (rest := []) (As := []) vm_X1_alight gw_697 (fire_o (camp_now (by decide : (28 : Nat) ∈ campL))) cq_1 dX10_lots_104 rfl rfl (Nat.le_of_ble_eq_true rfl) rfl (CI.mono H (fun r1 I2 X3 H => ?_))
    exact rs_iret dX10_lots_107 rfl H
  · have H := H.2 c
    refine r_iload_n (n := 66) 2 dX10_lots_65 rfl rfl ?_
    refine r_i2l (n := 67) dX10_lots_66 rfl ?_
    refine r_ldc2 (n := 70) (v := 48271) dX10_lots_67 gw_953 rfl ?_
    refine r_lmul (n := 71) dX10_lots_70 rfl ?_
    refine r_ldc2 (n := 74) (v := 2147483647) dX10_lots_71 gw_954 rfl ?_
    refine r_lrem (n := 75) dX10_lots_74 (by decide) rfl ?_
    refine r_l2i (n := 76) dX10_lots_75 rfl ?_
    have H := H _ rfl
    refine r_istore_n (n := 77) (lv' := [(3, .int _), (0, .ref _), (1, .int _), (4, .int _)]) dX10_lots_76 rfl (by decide) rfl rfl ?_
    refine r_aload_n (n := 78) 1 dX10_lots_77 rfl rfl ?_
    refine r_iload_n (n := 79) 0 dX10_lots_78 rfl rfl ?_
    refine rs_cVv (n := 82) (rest := []) (As := [.int _]) vm_X10_carryByLot gw_955 so_1 cq_9 dX10_lots_79 rfl rfl (Nat.le_of_ble_eq_true rfl) rfl (CV.mono H (fun I5 X6 H => ?_))
    refine r_aload_n (n := 83) 1 dX10_lots_82 rfl rfl ?_
    refine r_getR (n := 86) cls_9 3 fi_9_3 so_1 gw_322 dX10_lots_83 rfl sr_1_3 (by decide) ?_
    refine r_bipush (n := 88) (v := 36) dX10_lots_86 kb_36 rfl ?_
    refine rs_cVv (n := 91) (rest := []) (As := [.int _]) vm_X0_act gw_654 (camp_o (by decide : (28 : Nat) ∈ campL)) cq_0 dX10_lots_88 rfl rfl (Nat.le_of_ble_eq_true rfl) rfl (CV.mono H (fun I7 X8 H => ?_))
    have H := H _ rfl
    refine r_iinc (n := 94) (lv' := [(4, .int _), (3, .int _), (0, .ref _), (1, .int _)]) 3 dX10_lots_91 rfl rfl (by decide) rfl rfl ?_
    refine r_goto (n := 59) dX10_lots_94 (by decide) ?_
    exact r_sub [2, 3, 1, 0] rfl H
set_option maxRecDepth 20000 in
theorem en_X10_asked {g : OG} {d : Nat} {I : IT} {X : XT} {K : Int32 → IT → XT → Prop}  
    (H : K (I 1 14) I X) : CI g (d + 1) iX10_asked [rf g 1] I X K := by
  refine ocall_of (by decide) (Nat.le_of_ble_eq_true rfl) ?_
  show SR g (d + 1) iX10_asked 0 [(0, rf g 1)] I X (qI K)
  refine r_aload_n (n := 1) 0 dX10_asked_0 rfl rfl ?_
  refine rs_getI (n := 4) cls_9 14 fi_9_14 so_1 gw_333 dX10_asked_1 rfl ?_
  exact rs_iret dX10_asked_4 rfl H
set_option maxRecDepth 20000 in
theorem en_X10_upper {g : OG} {d : Nat} {I : IT} {X : XT} {K : Int64 → IT → XT → Prop}  
    (H : K (X.1 1 15) I X) : CL g (d + 1) iX10_upper [rf g 1] I X K := by
  refine ocall_of (by decide) (Nat.le_of_ble_eq_true rfl) ?_
  show SR g (d + 1) iX10_upper 0 [(0, rf g 1)] I X (qL K)
  refine r_aload_n (n := 1) 0 dX10_upper_0 rfl rfl ?_
  refine rs_getL (n := 4) cls_9 15 fi_9_15 so_1 gw_334 dX10_upper_1 rfl ?_
  exact rs_lret dX10_upper_4 rfl H
set_option maxRecDepth 20000 in
theorem en_X10_lower {g : OG} {d : Nat} {I : IT} {X : XT} {K : Int64 → IT → XT → Prop}  
    (H : K (X.1 1 16) I X) : CL g (d + 1) iX10_lower [rf g 1] I X K := by
  refine ocall_of (by decide) (Nat.le_of_ble_eq_true rfl) ?_
  show SR g (d + 1) iX10_lower 0 [(0, rf g 1)] I X (qL K)
  refine r_aload_n (n := 1) 0 dX10_lower_0 rfl rfl ?_
  refine rs_getL (n := 4) cls_9 16 fi_9_16 so_1 gw_335 dX10_lower_1 rfl ?_
  exact rs_lret dX10_lower_4 rfl H
set_option maxRecDepth 20000 in
theorem en_X10_count {g : OG} {d : Nat} {I : IT} {X : XT} {K : Int32 → IT → XT → Prop} {l1 : Int32} 
    (H : (l1 < 0 →
        K ((-1)) I X) ∧
      (¬ l1 < 0 →
        (l1 < 9 →
          CI g d iX10_countOf [rf g 1, .int l1] I X (fun r1 I2 X3 =>
            K r1 I2 X3)) ∧
        (¬ l1 < 9 →
          K ((-1)) I X))) : CI g (d + 1) iX10_count [rf g 1, .int l1] I X K := by
  refine ocall_of (by decide) (Nat.le_of_ble_eq_true rfl) ?_
  show SR g (d + 1) iX10_count 0 [(0, rf g 1), (1, .int l1)] I X (qI K)
  refine r_iload_n (n := 1) 1 dX10_count_0 rfl rfl ?_
  refine r_if_lt (n := 4) (tgt := 10) dX10_count_1 (by decide) rfl (fun c => ?_) (fun c => ?_)
  · have H := H.1 c
    refine r_iconst (n := 11) (v := (-1)) dX10_count_10 ki_m1 rfl ?_
    exact rs_iret dX10_count_11 rfl H
  · have H := H.2 c
    refine r_iload_n (n := 5) 1 dX10_count_4 rfl rfl ?_
    refine r_bipush (n := 7) (v := 9) dX10_count_5 kb_9 rfl ?_
    refine r_icmp_lt (n := 10) (tgt := 12) dX10_count_7 (by decide) rfl (fun c => ?_) (fun c => ?_)
    · have H := H.1 c
      refine r_aload_n (n := 13) 0 dX10_count_12 rfl rfl ?_
      refine r_iload_n (n := 14) 1 dX10_count_13 rfl rfl ?_
      refine rs_cVi (n := 17) (rest := []) (As := [.int _]) vm_X10_countOf gw_975 so_1 cq_9 dX10_count_14 rfl rfl (Nat.le_of_ble_eq_true rfl) rfl (CI.mono H (fun r1 I2 X3 H => ?_))
      exact rs_iret dX10_count_17 rfl H
    · have H := H.2 c
      refine r_iconst (n := 11) (v := (-1)) dX10_count_10 ki_m1 rfl ?_
      exact rs_iret dX10_count_11 rfl H
set_option maxRecDepth 20000 in
theorem en_X10_finding {g : OG} {d : Nat} {I : IT} {X : XT} {K : Int32 → IT → XT → Prop}  
    (H : K (I 1 13) I X) : CI g (d + 1) iX10_finding [rf g 1] I X K := by
  refine ocall_of (by decide) (Nat.le_of_ble_eq_true rfl) ?_
  show SR g (d + 1) iX10_finding 0 [(0, rf g 1)] I X (qI K)
  refine r_aload_n (n := 1) 0 dX10_finding_0 rfl rfl ?_
  refine rs_getI (n := 4) cls_9 13 fi_9_13 so_1 gw_332 dX10_finding_1 rfl ?_
  exact rs_iret dX10_finding_4 rfl H
set_option maxRecDepth 20000 in
theorem en_X10_findings {g : OG} {d : Nat} {I : IT} {X : XT} {K : Int32 → IT → XT → Prop} {l1 : Int32} 
    (H : (l1 < 1 →
        K ((-1)) I X) ∧
      (¬ l1 < 1 →
        (l1 ≤ 5 →
          vp_in l1 6 ∧
          K (I 128 l1.toNatClampNeg) I X) ∧
        (¬ l1 ≤ 5 →
          K ((-1)) I X))) : CI g (d + 1) iX10_findings [rf g 1, .int l1] I X K := by
  refine ocall_of (by decide) (Nat.le_of_ble_eq_true rfl) ?_
  show SR g (d + 1) iX10_findings 0 [(0, rf g 1), (1, .int l1)] I X (qI K)
  refine r_iload_n (n := 1) 1 dX10_findings_0 rfl rfl ?_
  refine r_iconst (n := 2) (v := 1) dX10_findings_1 ki_1 rfl ?_
  refine r_icmp_lt (n := 5) (tgt := 10) dX10_findings_2 (by decide) rfl (fun c => ?_) (fun c => ?_)
  · have H := H.1 c
    refine r_iconst (n := 11) (v := (-1)) dX10_findings_10 ki_m1 rfl ?_
    exact rs_iret dX10_findings_11 rfl H
  · have H := H.2 c
    refine r_iload_n (n := 6) 1 dX10_findings_5 rfl rfl ?_
    refine r_iconst (n := 7) (v := 5) dX10_findings_6 ki_5 rfl ?_
    refine r_icmp_le (n := 10) (tgt := 12) dX10_findings_7 (by decide) rfl (fun c => ?_) (fun c => ?_)
    · have H := H.1 c
      refine r_aload_n (n := 13) 0 dX10_findings_12 rfl rfl ?_
      refine r_getR (n := 16) cls_9 12 fi_9_12 so_1 gw_331 dX10_findings_13 rfl sr_1_12 (by decide) ?_
      refine r_iload_n (n := 17) 1 dX10_findings_16 rfl rfl ?_
      obtain ⟨hi1, H⟩ := H
      refine rs_iald (n := 18) sa_128 hi1 dX10_findings_17 rfl ?_
      exact rs_iret dX10_findings_18 rfl H
    · have H := H.2 c
      refine r_iconst (n := 11) (v := (-1)) dX10_findings_10 ki_m1 rfl ?_
      exact rs_iret dX10_findings_11 rfl H
set_option maxRecDepth 20000 in
theorem en_X10_digest {g : OG} {d : Nat} {I : IT} {X : XT} {K : Int64 → IT → XT → Prop}  
    (H : SR g (d + 1) iX10_digest 6 [(0, rf g 1), (1, .long 17), (3, .int 0)] I X (qL K)) : CL g (d + 1) iX10_digest [rf g 1] I X K := by
  refine ocall_of (by decide) (Nat.le_of_ble_eq_true rfl) ?_
  show SR g (d + 1) iX10_digest 0 [(0, rf g 1)] I X (qL K)
  refine r_ldc2 (n := 3) (v := 17) dX10_digest_0 gw_1008 rfl ?_
  refine r_lstore_n (n := 4) (lv' := [(1, .long _), (0, .ref _)]) dX10_digest_3 rfl (by decide) rfl rfl ?_
  refine r_iconst (n := 5) (v := 0) dX10_digest_4 ki_0 rfl ?_
  refine r_istore_n (n := 6) (lv' := [(3, .int _), (1, .long _), (0, .ref _)]) dX10_digest_5 rfl (by decide) rfl rfl ?_
  exact r_sub [2, 1, 0] rfl H
set_option maxRecDepth 20000 in
theorem rg_X10_digest_6 {g : OG} {d : Nat} {I : IT} {X : XT} {K : Int64 → IT → XT → Prop} {l1 : Int64} {l3 : Int32} 
    (H : (9 ≤ l3 →
        SR g (d + 1) iX10_digest 33 [(0, rf g 1), (1, .long l1), (3, .int 0)] I X (qL K)) ∧
      (¬ 9 ≤ l3 →
        CI g d iX10_countOf [rf g 1, .int l3] I X (fun r1 I2 X3 =>
          ∀ x4 : Int64, x4 = (31 * l1) + r1.toInt64 →
          ∀ x5 : Int32, x5 = l3 + 1 →
          SR g (d + 1) iX10_digest 6 [(0, rf g 1), (1, .long x4), (3, .int x5)] I2 X3 (qL K)))) : SR g (d + 1) iX10_digest 6 [(0, rf g 1), (1, .long l1), (3, .int l3)] I X (qL K) := by
  refine r_iload_n (n := 7) 2 dX10_digest_6 rfl rfl ?_
  refine r_bipush (n := 9) (v := 9) dX10_digest_7 kb_9 rfl ?_
  refine r_icmp_ge (n := 12) (tgt := 31) dX10_digest_9 (by decide) rfl (fun c => ?_) (fun c => ?_)
  · have H := H.1 c
    refine r_iconst (n := 32) (v := 0) dX10_digest_31 ki_0 rfl ?_
    refine r_istore_n (n := 33) (lv' := [(3, .int _), (0, .ref _), (1, .long _)]) dX10_digest_32 rfl (by decide) rfl rfl ?_
    exact r_sub [1, 2, 0] rfl H
  · have H := H.2 c
    refine r_ldc2 (n := 15) (v := 31) dX10_digest_12 gw_1009 rfl ?_
    refine r_lload_n (n := 16) 1 dX10_digest_15 rfl rfl ?_
    refine r_lmul (n := 17) dX10_digest_16 rfl ?_
    refine r_aload_n (n := 18) 0 dX10_digest_17 rfl rfl ?_
    refine r_iload_n (n := 19) 2 dX10_digest_18 rfl rfl ?_
    refine rs_cVi (n := 22) (rest := [.long _]) (As := [.int _]) vm_X10_countOf gw_975 so_1 cq_9 dX10_digest_19 rfl rfl (Nat.le_of_ble_eq_true rfl) rfl (CI.mono H (fun r1 I2 X3 H => ?_))
    refine r_i2l (n := 23) dX10_digest_22 rfl ?_
    refine r_ladd (n := 24) dX10_digest_23 rfl ?_
    have H := H _ rfl
    refine r_lstore_n (n := 25) (lv' := [(1, .long _), (0, .ref _), (3, .int _)]) dX10_digest_24 rfl (by decide) rfl rfl ?_
    have H := H _ rfl
    refine r_iinc (n := 28) (lv' := [(3, .int _), (1, .long _), (0, .ref _)]) 2 dX10_digest_25 rfl rfl (by decide) rfl rfl ?_
    refine r_goto (n := 6) dX10_digest_28 (by decide) ?_
    exact r_sub [2, 1, 0] rfl H
set_option maxRecDepth 20000 in
theorem rg_X10_digest_33 {g : OG} {d : Nat} {I : IT} {X : XT} {K : Int64 → IT → XT → Prop} {l1 : Int64} {l3 : Int32} 
    (H : ((I 24 4) ≤ l3 →
        SR g (d + 1) iX10_digest 83 [(0, rf g 1), (1, .long l1), (3, .int 0)] I X (qL K)) ∧
      (¬ (I 24 4) ≤ l3 →
        SR g (d + 1) iX10_digest 47 [(0, rf g 1), (1, .long l1), (3, .int l3), (4, .int 0)] I X (qL K))) : SR g (d + 1) iX10_digest 33 [(0, rf g 1), (1, .long l1), (3, .int l3)] I X (qL K) := by
  refine r_iload_n (n := 34) 2 dX10_digest_33 rfl rfl ?_
  refine r_aload_n (n := 35) 0 dX10_digest_34 rfl rfl ?_
  refine r_getR (n := 38) cls_9 2 fi_9_2 so_1 gw_321 dX10_digest_35 rfl sr_1_2 (by decide) ?_
  refine rs_getI (n := 41) cls_2 4 fi_2_4 (lane_o (by decide : (24 : Nat) ∈ laneL)) gw_138 dX10_digest_38 rfl ?_
  refine r_icmp_ge (n := 44) (tgt := 81) dX10_digest_41 (by decide) rfl (fun c => ?_) (fun c => ?_)
  · have H := H.1 c
    refine r_iconst (n := 82) (v := 0) dX10_digest_81 ki_0 rfl ?_
    refine r_istore_n (n := 83) (lv' := [(3, .int _), (0, .ref _), (1, .long _)]) dX10_digest_82 rfl (by decide) rfl rfl ?_
    exact r_sub [1, 2, 0] rfl H
  · have H := H.2 c
    refine r_iconst (n := 45) (v := 0) dX10_digest_44 ki_0 rfl ?_
    refine r_istore (n := 47) (lv' := [(4, .int _), (0, .ref _), (1, .long _), (3, .int _)]) dX10_digest_45 (by decide) rfl rfl ?_
    exact r_sub [1, 2, 3, 0] rfl H
set_option maxRecDepth 20000 in
theorem rg_X10_digest_83 {g : OG} {d : Nat} {I : IT} {X : XT} {K : Int64 → IT → XT → Prop} {l1 : Int64} {l3 : Int32} 
    (H : (3 ≤ l3 →
        SR g (d + 1) iX10_digest 129 [(0, rf g 1), (1, .long l1), (3, .int 0)] I X (qL K)) ∧
      (¬ 3 ≤ l3 →
        vp_in l3 3 ∧
        ((I (keptA l3.toNatClampNeg) 4) = 0 →
          ∀ x2 : Int64, x2 = (31 * l1) + (((-1)).toInt64) →
          ∀ x3 : Int32, x3 = l3 + 1 →
          SR g (d + 1) iX10_digest 83 [(0, rf g 1), (1, .long x2), (3, .int x3)] I X (qL K)) ∧
        (¬ (I (keptA l3.toNatClampNeg) 4) = 0 →
          vp_in l3 3 ∧
          ∀ x5 : Int64, x5 = (31 * l1) + ((I (keptA l3.toNatClampNeg) 3).toInt64) →
          ∀ x6 : Int32, x6 = l3 + 1 →
          SR g (d + 1) iX10_digest 83 [(0, rf g 1), (1, .long x5), (3, .int x6)] I X (qL K)))) : SR g (d + 1) iX10_digest 83 [(0, rf g 1), (1, .long l1), (3, .int l3)] I X (qL K) := by
  refine r_iload_n (n := 84) 2 dX10_digest_83 rfl rfl ?_
  refine r_iconst (n := 85) (v := 3) dX10_digest_84 ki_3 rfl ?_
  refine r_icmp_ge (n := 88) (tgt := 127) dX10_digest_85 (by decide) rfl (fun c => ?_) (fun c => ?_)
  · have H := H.1 c
    refine r_iconst (n := 128) (v := 0) dX10_digest_127 ki_0 rfl ?_
    refine r_istore_n (n := 129) (lv' := [(3, .int _), (0, .ref _), (1, .long _)]) dX10_digest_128 rfl (by decide) rfl rfl ?_
    exact r_sub [1, 2, 0] rfl H
  · have H := H.2 c
    refine r_ldc2 (n := 91) (v := 31) dX10_digest_88 gw_1009 rfl ?_
    refine r_lload_n (n := 92) 1 dX10_digest_91 rfl rfl ?_
    refine r_lmul (n := 93) dX10_digest_92 rfl ?_
    refine r_aload_n (n := 94) 0 dX10_digest_93 rfl rfl ?_
    refine r_getR (n := 97) cls_9 4 fi_9_4 so_1 gw_323 dX10_digest_94 rfl sr_1_4 (by decide) ?_
    refine r_iload_n (n := 98) 2 dX10_digest_97 rfl rfl ?_
    obtain ⟨hi1, H⟩ := H
    refine r_aald (n := 99) (z := 3) (t0 := 5) (K := "OneMatch$Campaign") sa_36 (by decide) (fun _ => rfl) hi1 dX10_digest_98 rfl (kept_el hi1) (kept_nz hi1) ?_
    refine rs_getI (n := 102) cls_0 4 fi_0_4 (camp_o (kept_mem hi1)) gw_197 dX10_digest_99 rfl ?_
    refine r_if_eq (n := 105) (tgt := 117) dX10_digest_102 (by decide) rfl (fun c => ?_) (fun c => ?_)
    · have H := H.1 c
      refine r_iconst (n := 118) (v := (-1)) dX10_digest_117 ki_m1 rfl ?_
      refine r_i2l (n := 119) dX10_digest_118 rfl ?_
      refine r_ladd (n := 120) dX10_digest_119 rfl ?_
      have H := H _ rfl
      refine r_lstore_n (n := 121) (lv' := [(1, .long _), (0, .ref _), (3, .int _)]) dX10_digest_120 rfl (by decide) rfl rfl ?_
      have H := H _ rfl
      refine r_iinc (n := 124) (lv' := [(3, .int _), (1, .long _), (0, .ref _)]) 2 dX10_digest_121 rfl rfl (by decide) rfl rfl ?_
      refine r_goto (n := 83) dX10_digest_124 (by decide) ?_
      exact r_sub [2, 1, 0] rfl H
    · have H := H.2 c
      refine r_aload_n (n := 106) 0 dX10_digest_105 rfl rfl ?_
      refine r_getR (n := 109) cls_9 4 fi_9_4 so_1 gw_323 dX10_digest_106 rfl sr_1_4 (by decide) ?_
      refine r_iload_n (n := 110) 2 dX10_digest_109 rfl rfl ?_
      obtain ⟨hi4, H⟩ := H
      refine r_aald (n := 111) (z := 3) (t0 := 5) (K := "OneMatch$Campaign") sa_36 (by decide) (fun _ => rfl) hi4 dX10_digest_110 rfl (kept_el hi4) (kept_nz hi4) ?_
      refine rs_getI (n := 114) cls_0 3 fi_0_3 (camp_o (kept_mem hi4)) gw_195 dX10_digest_111 rfl ?_
      refine r_goto (n := 118) dX10_digest_114 (by decide) ?_
      refine r_i2l (n := 119) dX10_digest_118 rfl ?_
      refine r_ladd (n := 120) dX10_digest_119 rfl ?_
      have H := H _ rfl
      refine r_lstore_n (n := 121) (lv' := [(1, .long _), (0, .ref _), (3, .int _)]) dX10_digest_120 rfl (by decide) rfl rfl ?_
      have H := H _ rfl
      refine r_iinc (n := 124) (lv' := [(3, .int _), (1, .long _), (0, .ref _)]) 2 dX10_digest_121 rfl rfl (by decide) rfl rfl ?_
      refine r_goto (n := 83) dX10_digest_124 (by decide) ?_
      exact r_sub [2, 1, 0] rfl H
set_option maxRecDepth 20000 in
theorem rg_X10_digest_47 {g : OG} {d : Nat} {I : IT} {X : XT} {K : Int64 → IT → XT → Prop} {l1 : Int64} {l3 : Int32} {l4 : Int32} 
    (H : (6 ≤ l4 →
        ∀ x1 : Int32, x1 = l3 + 1 →
        SR g (d + 1) iX10_digest 33 [(0, rf g 1), (1, .long l1), (3, .int x1)] I X (qL K)) ∧
      (¬ 6 ≤ l4 →
        CI g d iX10_factOf [rf g 1, .int l3, .int l4] I X (fun r2 I3 X4 =>
          ∀ x5 : Int64, x5 = (31 * l1) + r2.toInt64 →
          ∀ x6 : Int32, x6 = l4 + 1 →
          SR g (d + 1) iX10_digest 47 [(0, rf g 1), (1, .long x5), (3, .int l3), (4, .int x6)] I3 X4 (qL K)))) : SR g (d + 1) iX10_digest 47 [(0, rf g 1), (1, .long l1), (3, .int l3), (4, .int l4)] I X (qL K) := by
  refine r_iload (n := 49) 3 dX10_digest_47 rfl rfl ?_
  refine r_bipush (n := 51) (v := 6) dX10_digest_49 kb_6 rfl ?_
  refine r_icmp_ge (n := 54) (tgt := 75) dX10_digest_51 (by decide) rfl (fun c => ?_) (fun c => ?_)
  · have H := H.1 c
    have H := H _ rfl
    refine r_iinc (n := 78) (lv' := [(3, .int _), (0, .ref _), (1, .long _), (4, .int _)]) 2 dX10_digest_75 rfl rfl (by decide) rfl rfl ?_
    refine r_goto (n := 33) dX10_digest_78 (by decide) ?_
    exact r_sub [1, 2, 0] rfl H
  · have H := H.2 c
    refine r_ldc2 (n := 57) (v := 31) dX10_digest_54 gw_1009 rfl ?_
    refine r_lload_n (n := 58) 1 dX10_digest_57 rfl rfl ?_
    refine r_lmul (n := 59) dX10_digest_58 rfl ?_
    refine r_aload_n (n := 60) 0 dX10_digest_59 rfl rfl ?_
    refine r_iload_n (n := 61) 2 dX10_digest_60 rfl rfl ?_
    refine r_iload (n := 63) 3 dX10_digest_61 rfl rfl ?_
    refine rs_cVi (n := 66) (rest := [.long _]) (As := [.int _, .int _]) vm_X10_factOf gw_563 so_1 cq_9 dX10_digest_63 rfl rfl (Nat.le_of_ble_eq_true rfl) rfl (CI.mono H (fun r2 I3 X4 H => ?_))
    refine r_i2l (n := 67) dX10_digest_66 rfl ?_
    refine r_ladd (n := 68) dX10_digest_67 rfl ?_
    have H := H _ rfl
    refine r_lstore_n (n := 69) (lv' := [(1, .long _), (0, .ref _), (3, .int _), (4, .int _)]) dX10_digest_68 rfl (by decide) rfl rfl ?_
    have H := H _ rfl
    refine r_iinc (n := 72) (lv' := [(4, .int _), (1, .long _), (0, .ref _), (3, .int _)]) 3 dX10_digest_69 rfl rfl (by decide) rfl rfl ?_
    refine r_goto (n := 47) dX10_digest_72 (by decide) ?_
    exact r_sub [2, 1, 3, 0] rfl H
set_option maxRecDepth 20000 in
theorem rg_X10_digest_129 {g : OG} {d : Nat} {I : IT} {X : XT} {K : Int64 → IT → XT → Prop} {l1 : Int64} {l3 : Int32} 
    (H : (6 ≤ l3 →
        SR g (d + 1) iX10_digest 154 [(0, rf g 1), (1, .long l1), (3, .int 0)] I X (qL K)) ∧
      (¬ 6 ≤ l3 →
        vp_in l3 6 ∧
        CL g d iX7_digestOnto [rf g (rowA l3.toNatClampNeg), .long l1] I X (fun r2 I3 X4 =>
          ∀ x5 : Int32, x5 = l3 + 1 →
          SR g (d + 1) iX10_digest 129 [(0, rf g 1), (1, .long r2), (3, .int x5)] I3 X4 (qL K)))) : SR g (d + 1) iX10_digest 129 [(0, rf g 1), (1, .long l1), (3, .int l3)] I X (qL K) := by
  refine r_iload_n (n := 130) 2 dX10_digest_129 rfl rfl ?_
  refine r_bipush (n := 132) (v := 6) dX10_digest_130 kb_6 rfl ?_
  refine r_icmp_ge (n := 135) (tgt := 152) dX10_digest_132 (by decide) rfl (fun c => ?_) (fun c => ?_)
  · have H := H.1 c
    refine r_iconst (n := 153) (v := 0) dX10_digest_152 ki_0 rfl ?_
    refine r_istore_n (n := 154) (lv' := [(3, .int _), (0, .ref _), (1, .long _)]) dX10_digest_153 rfl (by decide) rfl rfl ?_
    exact r_sub [1, 2, 0] rfl H
  · have H := H.2 c
    refine r_aload_n (n := 136) 0 dX10_digest_135 rfl rfl ?_
    refine r_getR (n := 139) cls_9 0 fi_9_0 so_1 gw_319 dX10_digest_136 rfl sr_1_0 (by decide) ?_
    refine r_iload_n (n := 140) 2 dX10_digest_139 rfl rfl ?_
    obtain ⟨hi1, H⟩ := H
    refine r_aald (n := 141) (z := 6) (t0 := 3) (K := "OneMatch$Row") sa_2 (by decide) (fun _ => rfl) hi1 dX10_digest_140 rfl (row_el hi1) (row_nz hi1) ?_
    refine r_lload_n (n := 142) 1 dX10_digest_141 rfl rfl ?_
    refine rs_cVl (n := 145) (rest := []) (As := [.long _]) vm_X7_digestOnto gw_1010 (row_o (row_mem hi1)) cq_6 dX10_digest_142 rfl rfl (Nat.le_of_ble_eq_true rfl) rfl (CL.mono H (fun r2 I3 X4 H => ?_))
    refine r_lstore_n (n := 146) (lv' := [(1, .long _), (0, .ref _), (3, .int _)]) dX10_digest_145 rfl (by decide) rfl rfl ?_
    have H := H _ rfl
    refine r_iinc (n := 149) (lv' := [(3, .int _), (1, .long _), (0, .ref _)]) 2 dX10_digest_146 rfl rfl (by decide) rfl rfl ?_
    refine r_goto (n := 129) dX10_digest_149 (by decide) ?_
    exact r_sub [2, 1, 0] rfl H
set_option maxRecDepth 20000 in
theorem rg_X10_digest_154 {g : OG} {d : Nat} {I : IT} {X : XT} {K : Int64 → IT → XT → Prop} {l1 : Int64} {l3 : Int32} 
    (H : (4 ≤ l3 →
        K l1 I X) ∧
      (¬ 4 ≤ l3 →
        vp_in l3 4 ∧
        CL g d iX9_digestOnto [rf g (textA l3.toNatClampNeg), .long l1] I X (fun r2 I3 X4 =>
          ∀ x5 : Int32, x5 = l3 + 1 →
          SR g (d + 1) iX10_digest 154 [(0, rf g 1), (1, .long r2), (3, .int x5)] I3 X4 (qL K)))) : SR g (d + 1) iX10_digest 154 [(0, rf g 1), (1, .long l1), (3, .int l3)] I X (qL K) := by
  refine r_iload_n (n := 155) 2 dX10_digest_154 rfl rfl ?_
  refine r_iconst (n := 156) (v := 4) dX10_digest_155 ki_4 rfl ?_
  refine r_icmp_ge (n := 159) (tgt := 176) dX10_digest_156 (by decide) rfl (fun c => ?_) (fun c => ?_)
  · have H := H.1 c
    refine r_lload_n (n := 177) 1 dX10_digest_176 rfl rfl ?_
    exact rs_lret dX10_digest_177 rfl H
  · have H := H.2 c
    refine r_aload_n (n := 160) 0 dX10_digest_159 rfl rfl ?_
    refine r_getR (n := 163) cls_9 1 fi_9_1 so_1 gw_320 dX10_digest_160 rfl sr_1_1 (by decide) ?_
    refine r_iload_n (n := 164) 2 dX10_digest_163 rfl rfl ?_
    obtain ⟨hi1, H⟩ := H
    refine r_aald (n := 165) (z := 4) (t0 := 4) (K := "OneMatch$Text") sa_15 (by decide) (fun _ => rfl) hi1 dX10_digest_164 rfl (text_el hi1) (text_nz hi1) ?_
    refine r_lload_n (n := 166) 1 dX10_digest_165 rfl rfl ?_
    refine rs_cVl (n := 169) (rest := []) (As := [.long _]) vm_X9_digestOnto gw_1015 (text_o (text_mem hi1)) cq_8 dX10_digest_166 rfl rfl (Nat.le_of_ble_eq_true rfl) rfl (CL.mono H (fun r2 I3 X4 H => ?_))
    refine r_lstore_n (n := 170) (lv' := [(1, .long _), (0, .ref _), (3, .int _)]) dX10_digest_169 rfl (by decide) rfl rfl ?_
    have H := H _ rfl
    refine r_iinc (n := 173) (lv' := [(3, .int _), (1, .long _), (0, .ref _)]) 2 dX10_digest_170 rfl rfl (by decide) rfl rfl ?_
    refine r_goto (n := 154) dX10_digest_173 (by decide) ?_
    exact r_sub [2, 1, 0] rfl H
set_option maxRecDepth 20000 in
theorem en_X10_isRow {g : OG} {d : Nat} {I : IT} {X : XT} {K : Int32 → IT → XT → Prop} {l0 : Int32} 
    (H : (l0 < 0 →
        K 0 I X) ∧
      (¬ l0 < 0 →
        (6 ≤ l0 →
          K 0 I X) ∧
        (¬ 6 ≤ l0 →
          K 1 I X))) : CI g (d + 1) iX10_isRow [.int l0] I X K := by
  refine ocall_of (by decide) (Nat.le_of_ble_eq_true rfl) ?_
  show SR g (d + 1) iX10_isRow 0 [(0, .int l0)] I X (qI K)
  refine r_iload_n (n := 1) 0 dX10_isRow_0 rfl rfl ?_
  refine r_if_lt (n := 4) (tgt := 14) dX10_isRow_1 (by decide) rfl (fun c => ?_) (fun c => ?_)
  · have H := H.1 c
    refine r_iconst (n := 15) (v := 0) dX10_isRow_14 ki_0 rfl ?_
    exact rs_zret dX10_isRow_15 rfl (by decide) H
  · have H := H.2 c
    refine r_iload_n (n := 5) 0 dX10_isRow_4 rfl rfl ?_
    refine r_bipush (n := 7) (v := 6) dX10_isRow_5 kb_6 rfl ?_
    refine r_icmp_ge (n := 10) (tgt := 14) dX10_isRow_7 (by decide) rfl (fun c => ?_) (fun c => ?_)
    · have H := H.1 c
      refine r_iconst (n := 15) (v := 0) dX10_isRow_14 ki_0 rfl ?_
      exact rs_zret dX10_isRow_15 rfl (by decide) H
    · have H := H.2 c
      refine r_iconst (n := 11) (v := 1) dX10_isRow_10 ki_1 rfl ?_
      refine r_goto (n := 15) dX10_isRow_11 (by decide) ?_
      exact rs_zret dX10_isRow_15 rfl (by decide) H
set_option maxRecDepth 20000 in
theorem en_X10_isText {g : OG} {d : Nat} {I : IT} {X : XT} {K : Int32 → IT → XT → Prop} {l0 : Int32} 
    (H : (l0 < 0 →
        K 0 I X) ∧
      (¬ l0 < 0 →
        (4 ≤ l0 →
          K 0 I X) ∧
        (¬ 4 ≤ l0 →
          K 1 I X))) : CI g (d + 1) iX10_isText [.int l0] I X K := by
  refine ocall_of (by decide) (Nat.le_of_ble_eq_true rfl) ?_
  show SR g (d + 1) iX10_isText 0 [(0, .int l0)] I X (qI K)
  refine r_iload_n (n := 1) 0 dX10_isText_0 rfl rfl ?_
  refine r_if_lt (n := 4) (tgt := 13) dX10_isText_1 (by decide) rfl (fun c => ?_) (fun c => ?_)
  · have H := H.1 c
    refine r_iconst (n := 14) (v := 0) dX10_isText_13 ki_0 rfl ?_
    exact rs_zret dX10_isText_14 rfl (by decide) H
  · have H := H.2 c
    refine r_iload_n (n := 5) 0 dX10_isText_4 rfl rfl ?_
    refine r_iconst (n := 6) (v := 4) dX10_isText_5 ki_4 rfl ?_
    refine r_icmp_ge (n := 9) (tgt := 13) dX10_isText_6 (by decide) rfl (fun c => ?_) (fun c => ?_)
    · have H := H.1 c
      refine r_iconst (n := 14) (v := 0) dX10_isText_13 ki_0 rfl ?_
      exact rs_zret dX10_isText_14 rfl (by decide) H
    · have H := H.2 c
      refine r_iconst (n := 10) (v := 1) dX10_isText_9 ki_1 rfl ?_
      refine r_goto (n := 14) dX10_isText_10 (by decide) ?_
      exact rs_zret dX10_isText_14 rfl (by decide) H
set_option maxRecDepth 20000 in
theorem en_X10_isKeepingPlace {g : OG} {d : Nat} {I : IT} {X : XT} {K : Int32 → IT → XT → Prop} {l0 : Int32} 
    (H : (l0 < 0 →
        K 0 I X) ∧
      (¬ l0 < 0 →
        (3 ≤ l0 →
          K 0 I X) ∧
        (¬ 3 ≤ l0 →
          K 1 I X))) : CI g (d + 1) iX10_isKeepingPlace [.int l0] I X K := by
  refine ocall_of (by decide) (Nat.le_of_ble_eq_true rfl) ?_
  show SR g (d + 1) iX10_isKeepingPlace 0 [(0, .int l0)] I X (qI K)
  refine r_iload_n (n := 1) 0 dX10_isKeepingPlace_0 rfl rfl ?_
  refine r_if_lt (n := 4) (tgt := 13) dX10_isKeepingPlace_1 (by decide) rfl (fun c => ?_) (fun c => ?_)
  · have H := H.1 c
    refine r_iconst (n := 14) (v := 0) dX10_isKeepingPlace_13 ki_0 rfl ?_
    exact rs_zret dX10_isKeepingPlace_14 rfl (by decide) H
  · have H := H.2 c
    refine r_iload_n (n := 5) 0 dX10_isKeepingPlace_4 rfl rfl ?_
    refine r_iconst (n := 6) (v := 3) dX10_isKeepingPlace_5 ki_3 rfl ?_
    refine r_icmp_ge (n := 9) (tgt := 13) dX10_isKeepingPlace_6 (by decide) rfl (fun c => ?_) (fun c => ?_)
    · have H := H.1 c
      refine r_iconst (n := 14) (v := 0) dX10_isKeepingPlace_13 ki_0 rfl ?_
      exact rs_zret dX10_isKeepingPlace_14 rfl (by decide) H
    · have H := H.2 c
      refine r_iconst (n := 10) (v := 1) dX10_isKeepingPlace_9 ki_1 rfl ?_
      refine r_goto (n := 14) dX10_isKeepingPlace_10 (by decide) ?_
      exact rs_zret dX10_isKeepingPlace_14 rfl (by decide) H
set_option maxRecDepth 20000 in
theorem en_X10_isAhead {g : OG} {d : Nat} {I : IT} {X : XT} {K : Int32 → IT → XT → Prop} {l0 : Int32} 
    (H : (l0 < 0 →
        K 0 I X) ∧
      (¬ l0 < 0 →
        (4 < l0 →
          K 0 I X) ∧
        (¬ 4 < l0 →
          K 1 I X))) : CI g (d + 1) iX10_isAhead [.int l0] I X K := by
  refine ocall_of (by decide) (Nat.le_of_ble_eq_true rfl) ?_
  show SR g (d + 1) iX10_isAhead 0 [(0, .int l0)] I X (qI K)
  refine r_iload_n (n := 1) 0 dX10_isAhead_0 rfl rfl ?_
  refine r_if_lt (n := 4) (tgt := 13) dX10_isAhead_1 (by decide) rfl (fun c => ?_) (fun c => ?_)
  · have H := H.1 c
    refine r_iconst (n := 14) (v := 0) dX10_isAhead_13 ki_0 rfl ?_
    exact rs_zret dX10_isAhead_14 rfl (by decide) H
  · have H := H.2 c
    refine r_iload_n (n := 5) 0 dX10_isAhead_4 rfl rfl ?_
    refine r_iconst (n := 6) (v := 4) dX10_isAhead_5 ki_4 rfl ?_
    refine r_icmp_gt (n := 9) (tgt := 13) dX10_isAhead_6 (by decide) rfl (fun c => ?_) (fun c => ?_)
    · have H := H.1 c
      refine r_iconst (n := 14) (v := 0) dX10_isAhead_13 ki_0 rfl ?_
      exact rs_zret dX10_isAhead_14 rfl (by decide) H
    · have H := H.2 c
      refine r_iconst (n := 10) (v := 1) dX10_isAhead_9 ki_1 rfl ?_
      refine r_goto (n := 14) dX10_isAhead_10 (by decide) ?_
      exact rs_zret dX10_isAhead_14 rfl (by decide) H
set_option maxRecDepth 20000 in
theorem en_X10_found {g : OG} {d : Nat} {I : IT} {X : XT} {K : Int32 → IT → XT → Prop} {l1 : Int32} 
    (H : (l1 < 1 →
        K ((-3)) I X) ∧
      (¬ l1 < 1 →
        (5 < l1 →
          K ((-3)) I X) ∧
        (¬ 5 < l1 →
          ∀ I1 : IT, I1 = set2 I 1 13 l1 →
          vp_in l1 6 ∧
          vp_in l1 6 ∧
          ∀ I4 : IT, I4 = set2 I1 128 l1.toNatClampNeg ((I1 128 l1.toNatClampNeg) + 1) →
          K ((-3)) I4 X))) : CI g (d + 1) iX10_found [rf g 1, .int l1] I X K := by
  refine ocall_of (by decide) (Nat.le_of_ble_eq_true rfl) ?_
  show SR g (d + 1) iX10_found 0 [(0, rf g 1), (1, .int l1)] I X (qI K)
  refine r_iload_n (n := 1) 1 dX10_found_0 rfl rfl ?_
  refine r_iconst (n := 2) (v := 1) dX10_found_1 ki_1 rfl ?_
  refine r_icmp_lt (n := 5) (tgt := 25) dX10_found_2 (by decide) rfl (fun c => ?_) (fun c => ?_)
  · have H := H.1 c
    refine r_bipush (n := 27) (v := (-3)) dX10_found_25 kb_m3 rfl ?_
    exact rs_iret dX10_found_27 rfl H
  · have H := H.2 c
    refine r_iload_n (n := 6) 1 dX10_found_5 rfl rfl ?_
    refine r_iconst (n := 7) (v := 5) dX10_found_6 ki_5 rfl ?_
    refine r_icmp_gt (n := 10) (tgt := 25) dX10_found_7 (by decide) rfl (fun c => ?_) (fun c => ?_)
    · have H := H.1 c
      refine r_bipush (n := 27) (v := (-3)) dX10_found_25 kb_m3 rfl ?_
      exact rs_iret dX10_found_27 rfl H
    · have H := H.2 c
      refine r_aload_n (n := 11) 0 dX10_found_10 rfl rfl ?_
      refine r_iload_n (n := 12) 1 dX10_found_11 rfl rfl ?_
      have H := H _ rfl
      refine rs_putI (n := 15) cls_9 13 fp_9_13 so_1 gw_332 dX10_found_12 rfl ?_
      refine r_aload_n (n := 16) 0 dX10_found_15 rfl rfl ?_
      refine r_getR (n := 19) cls_9 12 fi_9_12 so_1 gw_331 dX10_found_16 rfl sr_1_12 (by decide) ?_
      refine r_iload_n (n := 20) 1 dX10_found_19 rfl rfl ?_
      refine r_dup2 (n := 21) dX10_found_20 rfl rfl rfl ?_
      obtain ⟨hi2, H⟩ := H
      refine rs_iald (n := 22) sa_128 hi2 dX10_found_21 rfl ?_
      refine r_iconst (n := 23) (v := 1) dX10_found_22 ki_1 rfl ?_
      refine r_iadd (n := 24) dX10_found_23 rfl ?_
      obtain ⟨hi3, H⟩ := H
      have H := H _ rfl
      refine rs_iast (n := 25) sa_128 hi3 dX10_found_24 rfl ?_
      refine r_bipush (n := 27) (v := (-3)) dX10_found_25 kb_m3 rfl ?_
      exact rs_iret dX10_found_27 rfl H
set_option maxRecDepth 20000 in
theorem en_X10_tell {g : OG} {d : Nat} {I : IT} {X : XT} {K : IT → XT → Prop} {l1 : Int64} {l3 : Int64} 
    (H : CL g d iX10_commonDivisor [.long l1, .long l3] I X (fun r1 I2 X3 =>
        (0 < (lg_cmp r1 0) →
          ¬ r1 = 0 ∧
          ∀ X5 : XT, X5 = (set2L X3.1 1 15 (l1 / r1), X3.2) →
          ¬ r1 = 0 ∧
          ∀ X7 : XT, X7 = (set2L X5.1 1 16 (l3 / r1), X5.2) →
          K I2 X7) ∧
        (¬ 0 < (lg_cmp r1 0) →
          K I2 X3))) : CV g (d + 1) iX10_tell [rf g 1, .long l1, .long l3] I X K := by
  refine ocall_of (by decide) (Nat.le_of_ble_eq_true rfl) ?_
  show SR g (d + 1) iX10_tell 0 [(0, rf g 1), (1, .long l1), (3, .long l3)] I X (qV K)
  refine r_lload_n (n := 1) 1 dX10_tell_0 rfl rfl ?_
  refine r_lload_n (n := 2) 2 dX10_tell_1 rfl rfl ?_
  refine rs_cSl (n := 5) (rest := []) (As := [.long _, .long _]) sm_X10_commonDivisor gw_854 dX10_tell_2 rfl rfl (Nat.le_of_ble_eq_true rfl) rfl (CL.mono H (fun r1 I2 X3 H => ?_))
  refine r_lstore (n := 7) (lv' := [(5, .long _), (0, .ref _), (1, .long _), (3, .long _)]) dX10_tell_5 (by decide) rfl rfl ?_
  refine r_lload (n := 9) 0 dX10_tell_7 rfl rfl ?_
  refine r_lconst (n := 10) (v := 0) dX10_tell_9 (by decide) rfl ?_
  refine r_lcmp (n := 11) dX10_tell_10 rfl ?_
  refine r_if_gt (n := 14) (tgt := 15) dX10_tell_11 (by decide) rfl (fun c => ?_) (fun c => ?_)
  · have H := H.1 c
    refine r_aload_n (n := 16) 1 dX10_tell_15 rfl rfl ?_
    refine r_lload_n (n := 17) 2 dX10_tell_16 rfl rfl ?_
    refine r_lload (n := 19) 0 dX10_tell_17 rfl rfl ?_
    obtain ⟨hz4, H⟩ := H
    refine r_ldiv (n := 20) dX10_tell_19 hz4 rfl ?_
    have H := H _ rfl
    refine rs_putL (n := 23) cls_9 15 fp_9_15 so_1 gw_334 dX10_tell_20 rfl ?_
    refine r_aload_n (n := 24) 1 dX10_tell_23 rfl rfl ?_
    refine r_lload_n (n := 25) 3 dX10_tell_24 rfl rfl ?_
    refine r_lload (n := 27) 0 dX10_tell_25 rfl rfl ?_
    obtain ⟨hz6, H⟩ := H
    refine r_ldiv (n := 28) dX10_tell_27 hz6 rfl ?_
    have H := H _ rfl
    refine rs_putL (n := 31) cls_9 16 fp_9_16 so_1 gw_335 dX10_tell_28 rfl ?_
    exact rs_vret dX10_tell_31 rfl H
  · have H := H.2 c
    exact rs_vret dX10_tell_14 rfl H
set_option maxRecDepth 20000 in
theorem en_X10_commonDivisor {g : OG} {d : Nat} {I : IT} {X : XT} {K : Int64 → IT → XT → Prop} {l0 : Int64} {l2 : Int64} 
    (H : SR g (d + 1) iX10_commonDivisor 9 [(4, .long l0), (6, .long l2), (8, .int 0)] I X (qL K)) : CL g (d + 1) iX10_commonDivisor [.long l0, .long l2] I X K := by
  refine ocall_of (by decide) (Nat.le_of_ble_eq_true rfl) ?_
  show SR g (d + 1) iX10_commonDivisor 0 [(0, .long l0), (2, .long l2)] I X (qL K)
  refine r_lload_n (n := 1) 0 dX10_commonDivisor_0 rfl rfl ?_
  refine r_lstore (n := 3) (lv' := [(4, .long _), (0, .long _), (2, .long _)]) dX10_commonDivisor_1 (by decide) rfl rfl ?_
  refine r_lload_n (n := 4) 2 dX10_commonDivisor_3 rfl rfl ?_
  refine r_lstore (n := 6) (lv' := [(6, .long _), (4, .long _), (0, .long _), (2, .long _)]) dX10_commonDivisor_4 (by decide) rfl rfl ?_
  refine r_iconst (n := 7) (v := 0) dX10_commonDivisor_6 ki_0 rfl ?_
  refine r_istore (n := 9) (lv' := [(8, .int _), (6, .long _), (4, .long _), (0, .long _), (2, .long _)]) dX10_commonDivisor_7 (by decide) rfl rfl ?_
  exact r_sub [2, 1, 0] rfl H
set_option maxRecDepth 20000 in
theorem rg_X10_commonDivisor_9 {g : OG} {d : Nat} {I : IT} {X : XT} {K : Int64 → IT → XT → Prop} {l4 : Int64} {l6 : Int64} {l8 : Int32} 
    (H : (100 ≤ l8 →
        K l4 I X) ∧
      (¬ 100 ≤ l8 →
        ((lg_cmp l6 0) = 0 →
          K l4 I X) ∧
        (¬ (lg_cmp l6 0) = 0 →
          ¬ l6 = 0 ∧
          ∀ x2 : Int64, x2 = l4 - l4 / l6 * l6 →
          ∀ x3 : Int32, x3 = l8 + 1 →
          SR g (d + 1) iX10_commonDivisor 9 [(4, .long l6), (6, .long x2), (8, .int x3)] I X (qL K)))) : SR g (d + 1) iX10_commonDivisor 9 [(4, .long l4), (6, .long l6), (8, .int l8)] I X (qL K) := by
  refine r_iload (n := 11) 2 dX10_commonDivisor_9 rfl rfl ?_
  refine r_bipush (n := 13) (v := 100) dX10_commonDivisor_11 kb_100 rfl ?_
  refine r_icmp_ge (n := 16) (tgt := 44) dX10_commonDivisor_13 (by decide) rfl (fun c => ?_) (fun c => ?_)
  · have H := H.1 c
    refine r_lload (n := 46) 0 dX10_commonDivisor_44 rfl rfl ?_
    exact rs_lret dX10_commonDivisor_46 rfl H
  · have H := H.2 c
    refine r_lload (n := 18) 1 dX10_commonDivisor_16 rfl rfl ?_
    refine r_lconst (n := 19) (v := 0) dX10_commonDivisor_18 (by decide) rfl ?_
    refine r_lcmp (n := 20) dX10_commonDivisor_19 rfl ?_
    refine r_if_eq (n := 23) (tgt := 44) dX10_commonDivisor_20 (by decide) rfl (fun c => ?_) (fun c => ?_)
    · have H := H.1 c
      refine r_lload (n := 46) 0 dX10_commonDivisor_44 rfl rfl ?_
      exact rs_lret dX10_commonDivisor_46 rfl H
    · have H := H.2 c
      refine r_lload (n := 25) 0 dX10_commonDivisor_23 rfl rfl ?_
      refine r_lload (n := 27) 1 dX10_commonDivisor_25 rfl rfl ?_
      obtain ⟨hz1, H⟩ := H
      refine r_lrem (n := 28) dX10_commonDivisor_27 hz1 rfl ?_
      have H := H _ rfl
      refine r_lstore (n := 30) (lv' := [(9, .long _), (4, .long _), (6, .long _), (8, .int _)]) dX10_commonDivisor_28 (by decide) rfl rfl ?_
      refine r_lload (n := 32) 2 dX10_commonDivisor_30 rfl rfl ?_
      refine r_lstore (n := 34) (lv' := [(4, .long _), (9, .long _), (6, .long _), (8, .int _)]) dX10_commonDivisor_32 (by decide) rfl rfl ?_
      refine r_lload (n := 36) 1 dX10_commonDivisor_34 rfl rfl ?_
      refine r_lstore (n := 38) (lv' := [(6, .long _), (4, .long _), (9, .long _), (8, .int _)]) dX10_commonDivisor_36 (by decide) rfl rfl ?_
      have H := H _ rfl
      refine r_iinc (n := 41) (lv' := [(8, .int _), (6, .long _), (4, .long _), (9, .long _)]) 3 dX10_commonDivisor_38 rfl rfl (by decide) rfl rfl ?_
      refine r_goto (n := 9) dX10_commonDivisor_41 (by decide) ?_
      exact r_sub [2, 1, 0] rfl H
set_option maxRecDepth 20000 in
theorem en_X10_factOf {g : OG} {d : Nat} {I : IT} {X : XT} {K : Int32 → IT → XT → Prop} {l1 : Int32} {l2 : Int32} 
    (H : (l2 = 0 →
        CI g d iX3_kindOf [rf g 24, .int l1] I X (fun r2 I3 X4 =>
          K r2 I3 X4)) ∧
      (¬ l2 = 0 →
        (l2 = 1 →
        CI g d iX1_woodOf [rf g (28 + 5), .int l1] I X (fun r6 I7 X8 =>
          K r6 I7 X8)) ∧
      (¬ l2 = 1 →
        (l2 = 2 →
        CI g d iX1_wetOf [rf g (28 + 5), .int l1] I X (fun r10 I11 X12 =>
          K r10 I11 X12)) ∧
      (¬ l2 = 2 →
        (l2 = 3 →
        CI g d iX3_needOf [rf g 24, .int l1] I X (fun r14 I15 X16 =>
          K r14 I15 X16)) ∧
      (¬ l2 = 3 →
        (l2 = 4 →
        CI g d iX1_burns [rf g (28 + 5), .int l1] I X (fun r18 I19 X20 =>
          (r18 = 0 →
            K 0 I19 X20) ∧
          (¬ r18 = 0 →
            K 1 I19 X20))) ∧
      (¬ l2 = 4 →
        CI g d iX1_catches [rf g (28 + 5), .int l1] I X (fun r21 I22 X23 =>
        (r21 = 0 →
          K 0 I22 X23) ∧
        (¬ r21 = 0 →
          K 1 I22 X23)))))))) : CI g (d + 1) iX10_factOf [rf g 1, .int l1, .int l2] I X K := by
  refine ocall_of (by decide) (Nat.le_of_ble_eq_true rfl) ?_
  show SR g (d + 1) iX10_factOf 0 [(0, rf g 1), (1, .int l1), (2, .int l2)] I X (qI K)
  refine r_aload_n (n := 1) 0 dX10_factOf_0 rfl rfl ?_
  refine r_getR (n := 4) cls_9 3 fi_9_3 so_1 gw_322 dX10_factOf_1 rfl sr_1_3 (by decide) ?_
  refine r_getR (n := 7) cls_0 1 fi_0_1 (camp_o (by decide : (28 : Nat) ∈ campL)) gw_192 dX10_factOf_4 rfl (camp_r1 (by decide : (28 : Nat) ∈ campL)) (camp_n1 (by decide : (28 : Nat) ∈ campL)) ?_
  refine r_astore_n (n := 8) (lv' := [(3, .ref _), (0, .ref _), (1, .int _), (2, .int _)]) dX10_factOf_7 rfl (by decide) rfl rfl ?_
  refine r_iload_n (n := 9) 3 dX10_factOf_8 rfl rfl ?_
  refine sw_split H (fun cs1 H => ?_) (fun cs1 H => ?_)
  · refine r_tcase (n := 44) (v := 0) (off := 35) dX10_factOf_9 cs1 (by decide) (by decide) (by decide) ?_
    refine r_aload_n (n := 45) 1 dX10_factOf_44 rfl rfl ?_
    refine r_getR (n := 48) cls_9 2 fi_9_2 so_1 gw_321 dX10_factOf_45 rfl sr_1_2 (by decide) ?_
    refine r_iload_n (n := 49) 2 dX10_factOf_48 rfl rfl ?_
    refine rs_cVi (n := 52) (rest := []) (As := [.int _]) vm_X3_kindOf gw_567 (lane_o (by decide : (24 : Nat) ∈ laneL)) cq_2 dX10_factOf_49 rfl rfl (Nat.le_of_ble_eq_true rfl) rfl (CI.mono H (fun r2 I3 X4 H => ?_))
    exact rs_iret dX10_factOf_52 rfl H
  · skip
    refine sw_split H (fun cs5 H => ?_) (fun cs5 H => ?_)
    · refine r_tcase (n := 53) (v := 1) (off := 44) dX10_factOf_9 cs5 (by decide) (by decide) (by decide) ?_
      refine r_aload_n (n := 54) 0 dX10_factOf_53 rfl rfl ?_
      refine r_iload_n (n := 55) 2 dX10_factOf_54 rfl rfl ?_
      refine rs_cVi (n := 58) (rest := []) (As := [.int _]) vm_X1_woodOf gw_572 (fire_o (camp_now (by decide : (28 : Nat) ∈ campL))) cq_1 dX10_factOf_55 rfl rfl (Nat.le_of_ble_eq_true rfl) rfl (CI.mono H (fun r6 I7 X8 H => ?_))
      exact rs_iret dX10_factOf_58 rfl H
    · skip
      refine sw_split H (fun cs9 H => ?_) (fun cs9 H => ?_)
      · refine r_tcase (n := 59) (v := 2) (off := 50) dX10_factOf_9 cs9 (by decide) (by decide) (by decide) ?_
        refine r_aload_n (n := 60) 0 dX10_factOf_59 rfl rfl ?_
        refine r_iload_n (n := 61) 2 dX10_factOf_60 rfl rfl ?_
        refine rs_cVi (n := 64) (rest := []) (As := [.int _]) vm_X1_wetOf gw_577 (fire_o (camp_now (by decide : (28 : Nat) ∈ campL))) cq_1 dX10_factOf_61 rfl rfl (Nat.le_of_ble_eq_true rfl) rfl (CI.mono H (fun r10 I11 X12 H => ?_))
        exact rs_iret dX10_factOf_64 rfl H
      · skip
        refine sw_split H (fun cs13 H => ?_) (fun cs13 H => ?_)
        · refine r_tcase (n := 65) (v := 3) (off := 56) dX10_factOf_9 cs13 (by decide) (by decide) (by decide) ?_
          refine r_aload_n (n := 66) 1 dX10_factOf_65 rfl rfl ?_
          refine r_getR (n := 69) cls_9 2 fi_9_2 so_1 gw_321 dX10_factOf_66 rfl sr_1_2 (by decide) ?_
          refine r_iload_n (n := 70) 2 dX10_factOf_69 rfl rfl ?_
          refine rs_cVi (n := 73) (rest := []) (As := [.int _]) vm_X3_needOf gw_581 (lane_o (by decide : (24 : Nat) ∈ laneL)) cq_2 dX10_factOf_70 rfl rfl (Nat.le_of_ble_eq_true rfl) rfl (CI.mono H (fun r14 I15 X16 H => ?_))
          exact rs_iret dX10_factOf_73 rfl H
        · skip
          refine sw_split H (fun cs17 H => ?_) (fun cs17 H => ?_)
          · refine r_tcase (n := 74) (v := 4) (off := 65) dX10_factOf_9 cs17 (by decide) (by decide) (by decide) ?_
            refine r_aload_n (n := 75) 0 dX10_factOf_74 rfl rfl ?_
            refine r_iload_n (n := 76) 2 dX10_factOf_75 rfl rfl ?_
            refine rs_cVi (n := 79) (rest := []) (As := [.int _]) vm_X1_burns gw_585 (fire_o (camp_now (by decide : (28 : Nat) ∈ campL))) cq_1 dX10_factOf_76 rfl rfl (Nat.le_of_ble_eq_true rfl) rfl (CI.mono H (fun r18 I19 X20 H => ?_))
            refine r_if_eq (n := 82) (tgt := 86) dX10_factOf_79 (by decide) rfl (fun c => ?_) (fun c => ?_)
            · have H := H.1 c
              refine r_iconst (n := 87) (v := 0) dX10_factOf_86 ki_0 rfl ?_
              exact rs_iret dX10_factOf_87 rfl H
            · have H := H.2 c
              refine r_iconst (n := 83) (v := 1) dX10_factOf_82 ki_1 rfl ?_
              refine r_goto (n := 87) dX10_factOf_83 (by decide) ?_
              exact rs_iret dX10_factOf_87 rfl H
          · skip
            refine r_tout (n := 88) dX10_factOf_9 (by have e0 := lv_neT cs1 (a := 0) (by decide); have e1 := lv_neT cs5 (a := 1) (by decide); have e2 := lv_neT cs9 (a := 2) (by decide); have e3 := lv_neT cs13 (a := 3) (by decide); have e4 := lv_neT cs17 (a := 4) (by decide); omega) (by decide) ?_
            refine r_aload_n (n := 89) 0 dX10_factOf_88 rfl rfl ?_
            refine r_iload_n (n := 90) 2 dX10_factOf_89 rfl rfl ?_
            refine rs_cVi (n := 93) (rest := []) (As := [.int _]) vm_X1_catches gw_589 (fire_o (camp_now (by decide : (28 : Nat) ∈ campL))) cq_1 dX10_factOf_90 rfl rfl (Nat.le_of_ble_eq_true rfl) rfl (CI.mono H (fun r21 I22 X23 H => ?_))
            refine r_if_eq (n := 96) (tgt := 100) dX10_factOf_93 (by decide) rfl (fun c => ?_) (fun c => ?_)
            · have H := H.1 c
              refine r_iconst (n := 101) (v := 0) dX10_factOf_100 ki_0 rfl ?_
              exact rs_iret dX10_factOf_101 rfl H
            · have H := H.2 c
              refine r_iconst (n := 97) (v := 1) dX10_factOf_96 ki_1 rfl ?_
              refine r_goto (n := 101) dX10_factOf_97 (by decide) ?_
              exact rs_iret dX10_factOf_101 rfl H
set_option maxRecDepth 20000 in
theorem en_X10_markOf {g : OG} {d : Nat} {I : IT} {X : XT} {K : Int32 → IT → XT → Prop} {l1 : Int32} {l2 : Int32} 
    (H : (l2 = 1 →
        CI g d iX1_woodFor [rf g (28 + 5), .int l1, .int 8] I X (fun r2 I3 X4 =>
          K r2 I3 X4)) ∧
      (¬ l2 = 1 →
        (l2 = 2 →
        CI g d iX3_kindOf [rf g 24, .int l1] I X (fun r6 I7 X8 =>
          CI g d iX2_dampest [.int r6] I7 X8 (fun r9 I10 X11 =>
            K (3 - r9) I10 X11))) ∧
      (¬ l2 = 2 →
        (l2 = 3 →
        CI g d iX1_woodOf [rf g (28 + 5), .int l1] I X (fun r13 I14 X15 =>
          K ((r13 + 1) / 2) I14 X15)) ∧
      (¬ l2 = 3 →
        (l2 = 4 →
        K ((4 - ((I (28 + 5) 4) - (I (28 + 5) 4) / 4 * 4)) - (4 - ((I (28 + 5) 4) - (I (28 + 5) 4) / 4 * 4)) / 4 * 4) I X) ∧
      (¬ l2 = 4 →
        CI g d iX1_wetBeside [rf g (28 + 5), .int l1] I X (fun r17 I18 X19 =>
        K r17 I18 X19)))))) : CI g (d + 1) iX10_markOf [rf g 1, .int l1, .int l2] I X K := by
  refine ocall_of (by decide) (Nat.le_of_ble_eq_true rfl) ?_
  show SR g (d + 1) iX10_markOf 0 [(0, rf g 1), (1, .int l1), (2, .int l2)] I X (qI K)
  refine r_aload_n (n := 1) 0 dX10_markOf_0 rfl rfl ?_
  refine r_getR (n := 4) cls_9 3 fi_9_3 so_1 gw_322 dX10_markOf_1 rfl sr_1_3 (by decide) ?_
  refine r_getR (n := 7) cls_0 1 fi_0_1 (camp_o (by decide : (28 : Nat) ∈ campL)) gw_192 dX10_markOf_4 rfl (camp_r1 (by decide : (28 : Nat) ∈ campL)) (camp_n1 (by decide : (28 : Nat) ∈ campL)) ?_
  refine r_astore_n (n := 8) (lv' := [(3, .ref _), (0, .ref _), (1, .int _), (2, .int _)]) dX10_markOf_7 rfl (by decide) rfl rfl ?_
  refine r_iload_n (n := 9) 3 dX10_markOf_8 rfl rfl ?_
  refine sw_split H (fun cs1 H => ?_) (fun cs1 H => ?_)
  · refine r_tcase (n := 40) (v := 1) (off := 31) dX10_markOf_9 cs1 (by decide) (by decide) (by decide) ?_
    refine r_aload_n (n := 41) 0 dX10_markOf_40 rfl rfl ?_
    refine r_iload_n (n := 42) 2 dX10_markOf_41 rfl rfl ?_
    refine r_bipush (n := 44) (v := 8) dX10_markOf_42 kb_8 rfl ?_
    refine rs_cVi (n := 47) (rest := []) (As := [.int _, .int _]) vm_X1_woodFor gw_617 (fire_o (camp_now (by decide : (28 : Nat) ∈ campL))) cq_1 dX10_markOf_44 rfl rfl (Nat.le_of_ble_eq_true rfl) rfl (CI.mono H (fun r2 I3 X4 H => ?_))
    exact rs_iret dX10_markOf_47 rfl H
  · skip
    refine sw_split H (fun cs5 H => ?_) (fun cs5 H => ?_)
    · refine r_tcase (n := 48) (v := 2) (off := 39) dX10_markOf_9 cs5 (by decide) (by decide) (by decide) ?_
      refine r_iconst (n := 49) (v := 3) dX10_markOf_48 ki_3 rfl ?_
      refine r_aload_n (n := 50) 1 dX10_markOf_49 rfl rfl ?_
      refine r_getR (n := 53) cls_9 2 fi_9_2 so_1 gw_321 dX10_markOf_50 rfl sr_1_2 (by decide) ?_
      refine r_iload_n (n := 54) 2 dX10_markOf_53 rfl rfl ?_
      refine rs_cVi (n := 57) (rest := [.int _]) (As := [.int _]) vm_X3_kindOf gw_567 (lane_o (by decide : (24 : Nat) ∈ laneL)) cq_2 dX10_markOf_54 rfl rfl (Nat.le_of_ble_eq_true rfl) rfl (CI.mono H (fun r6 I7 X8 H => ?_))
      refine rs_cSi (n := 60) (rest := [.int _]) (As := [.int _]) sm_X2_dampest gw_625 dX10_markOf_57 rfl rfl (Nat.le_of_ble_eq_true rfl) rfl (CI.mono H (fun r9 I10 X11 H => ?_))
      refine r_isub (n := 61) dX10_markOf_60 rfl ?_
      exact rs_iret dX10_markOf_61 rfl H
    · skip
      refine sw_split H (fun cs12 H => ?_) (fun cs12 H => ?_)
      · refine r_tcase (n := 62) (v := 3) (off := 53) dX10_markOf_9 cs12 (by decide) (by decide) (by decide) ?_
        refine r_aload_n (n := 63) 0 dX10_markOf_62 rfl rfl ?_
        refine r_iload_n (n := 64) 2 dX10_markOf_63 rfl rfl ?_
        refine rs_cVi (n := 67) (rest := []) (As := [.int _]) vm_X1_woodOf gw_572 (fire_o (camp_now (by decide : (28 : Nat) ∈ campL))) cq_1 dX10_markOf_64 rfl rfl (Nat.le_of_ble_eq_true rfl) rfl (CI.mono H (fun r13 I14 X15 H => ?_))
        refine r_iconst (n := 68) (v := 1) dX10_markOf_67 ki_1 rfl ?_
        refine r_iadd (n := 69) dX10_markOf_68 rfl ?_
        refine r_iconst (n := 70) (v := 2) dX10_markOf_69 ki_2 rfl ?_
        refine r_idiv (n := 71) dX10_markOf_70 (by decide) rfl ?_
        exact rs_iret dX10_markOf_71 rfl H
      · skip
        refine sw_split H (fun cs16 H => ?_) (fun cs16 H => ?_)
        · refine r_tcase (n := 72) (v := 4) (off := 63) dX10_markOf_9 cs16 (by decide) (by decide) (by decide) ?_
          refine r_iconst (n := 73) (v := 4) dX10_markOf_72 ki_4 rfl ?_
          refine r_aload_n (n := 74) 0 dX10_markOf_73 rfl rfl ?_
          refine rs_getI (n := 77) cls_1 4 fi_1_4 (fire_o (camp_now (by decide : (28 : Nat) ∈ campL))) gw_170 dX10_markOf_74 rfl ?_
          refine r_iconst (n := 78) (v := 4) dX10_markOf_77 ki_4 rfl ?_
          refine r_irem (n := 79) dX10_markOf_78 (by decide) rfl ?_
          refine r_isub (n := 80) dX10_markOf_79 rfl ?_
          refine r_iconst (n := 81) (v := 4) dX10_markOf_80 ki_4 rfl ?_
          refine r_irem (n := 82) dX10_markOf_81 (by decide) rfl ?_
          exact rs_iret dX10_markOf_82 rfl H
        · skip
          refine r_tout (n := 83) dX10_markOf_9 (by have e0 := lv_neT cs1 (a := 1) (by decide); have e1 := lv_neT cs5 (a := 2) (by decide); have e2 := lv_neT cs12 (a := 3) (by decide); have e3 := lv_neT cs16 (a := 4) (by decide); omega) (by decide) ?_
          refine r_aload_n (n := 84) 0 dX10_markOf_83 rfl rfl ?_
          refine r_iload_n (n := 85) 2 dX10_markOf_84 rfl rfl ?_
          refine rs_cVi (n := 88) (rest := []) (As := [.int _]) vm_X1_wetBeside gw_626 (fire_o (camp_now (by decide : (28 : Nat) ∈ campL))) cq_1 dX10_markOf_85 rfl rfl (Nat.le_of_ble_eq_true rfl) rfl (CI.mono H (fun r17 I18 X19 H => ?_))
          exact rs_iret dX10_markOf_88 rfl H
set_option maxRecDepth 20000 in
theorem en_X10_countOf {g : OG} {d : Nat} {I : IT} {X : XT} {K : Int32 → IT → XT → Prop} {l1 : Int32} 
    (H : (l1 = 0 →
        K (I 24 4) I X) ∧
      (¬ l1 = 0 →
        (l1 = 1 →
        K (I (28 + 5) 4) I X) ∧
      (¬ l1 = 1 →
        (l1 = 2 →
        ((I (28 + 5) 5) = 0 →
          K 0 I X) ∧
        (¬ (I (28 + 5) 5) = 0 →
          K 1 I X)) ∧
      (¬ l1 = 2 →
        (l1 = 3 →
        K (I 28 3) I X) ∧
      (¬ l1 = 3 →
        (l1 = 4 →
        CI g d iX1_allWood [rf g (28 + 5)] I X (fun r6 I7 X8 =>
          K r6 I7 X8)) ∧
      (¬ l1 = 4 →
        (l1 = 5 →
        CI g d iX3_countOf [rf g 24, .int 1] I X (fun r10 I11 X12 =>
          K r10 I11 X12)) ∧
      (¬ l1 = 5 →
        (l1 = 6 →
        CI g d iX10_rowsThere [rf g 1] I X (fun r14 I15 X16 =>
          K r14 I15 X16)) ∧
      (¬ l1 = 6 →
        (l1 = 7 →
        CI g d iX10_textsThere [rf g 1] I X (fun r18 I19 X20 =>
          K r18 I19 X20)) ∧
      (¬ l1 = 7 →
        CI g d iX10_keptThere [rf g 1] I X (fun r21 I22 X23 =>
        K r21 I22 X23)))))))))) : CI g (d + 1) iX10_countOf [rf g 1, .int l1] I X K := by
  refine ocall_of (by decide) (Nat.le_of_ble_eq_true rfl) ?_
  show SR g (d + 1) iX10_countOf 0 [(0, rf g 1), (1, .int l1)] I X (qI K)
  refine r_iload_n (n := 1) 1 dX10_countOf_0 rfl rfl ?_
  refine sw_split H (fun cs1 H => ?_) (fun cs1 H => ?_)
  · refine r_tcase (n := 48) (v := 0) (off := 47) dX10_countOf_1 cs1 (by decide) (by decide) (by decide) ?_
    refine r_aload_n (n := 49) 0 dX10_countOf_48 rfl rfl ?_
    refine r_getR (n := 52) cls_9 2 fi_9_2 so_1 gw_321 dX10_countOf_49 rfl sr_1_2 (by decide) ?_
    refine rs_getI (n := 55) cls_2 4 fi_2_4 (lane_o (by decide : (24 : Nat) ∈ laneL)) gw_138 dX10_countOf_52 rfl ?_
    exact rs_iret dX10_countOf_55 rfl H
  · skip
    refine sw_split H (fun cs2 H => ?_) (fun cs2 H => ?_)
    · refine r_tcase (n := 56) (v := 1) (off := 55) dX10_countOf_1 cs2 (by decide) (by decide) (by decide) ?_
      refine r_aload_n (n := 57) 0 dX10_countOf_56 rfl rfl ?_
      refine r_getR (n := 60) cls_9 3 fi_9_3 so_1 gw_322 dX10_countOf_57 rfl sr_1_3 (by decide) ?_
      refine r_getR (n := 63) cls_0 1 fi_0_1 (camp_o (by decide : (28 : Nat) ∈ campL)) gw_192 dX10_countOf_60 rfl (camp_r1 (by decide : (28 : Nat) ∈ campL)) (camp_n1 (by decide : (28 : Nat) ∈ campL)) ?_
      refine rs_getI (n := 66) cls_1 4 fi_1_4 (fire_o (camp_now (by decide : (28 : Nat) ∈ campL))) gw_170 dX10_countOf_63 rfl ?_
      exact rs_iret dX10_countOf_66 rfl H
    · skip
      refine sw_split H (fun cs3 H => ?_) (fun cs3 H => ?_)
      · refine r_tcase (n := 67) (v := 2) (off := 66) dX10_countOf_1 cs3 (by decide) (by decide) (by decide) ?_
        refine r_aload_n (n := 68) 0 dX10_countOf_67 rfl rfl ?_
        refine r_getR (n := 71) cls_9 3 fi_9_3 so_1 gw_322 dX10_countOf_68 rfl sr_1_3 (by decide) ?_
        refine r_getR (n := 74) cls_0 1 fi_0_1 (camp_o (by decide : (28 : Nat) ∈ campL)) gw_192 dX10_countOf_71 rfl (camp_r1 (by decide : (28 : Nat) ∈ campL)) (camp_n1 (by decide : (28 : Nat) ∈ campL)) ?_
        refine rs_getI (n := 77) cls_1 5 fi_1_5 (fire_o (camp_now (by decide : (28 : Nat) ∈ campL))) gw_172 dX10_countOf_74 rfl ?_
        refine r_if_eq (n := 80) (tgt := 84) dX10_countOf_77 (by decide) rfl (fun c => ?_) (fun c => ?_)
        · have H := H.1 c
          refine r_iconst (n := 85) (v := 0) dX10_countOf_84 ki_0 rfl ?_
          exact rs_iret dX10_countOf_85 rfl H
        · have H := H.2 c
          refine r_iconst (n := 81) (v := 1) dX10_countOf_80 ki_1 rfl ?_
          refine r_goto (n := 85) dX10_countOf_81 (by decide) ?_
          exact rs_iret dX10_countOf_85 rfl H
      · skip
        refine sw_split H (fun cs4 H => ?_) (fun cs4 H => ?_)
        · refine r_tcase (n := 86) (v := 3) (off := 85) dX10_countOf_1 cs4 (by decide) (by decide) (by decide) ?_
          refine r_aload_n (n := 87) 0 dX10_countOf_86 rfl rfl ?_
          refine r_getR (n := 90) cls_9 3 fi_9_3 so_1 gw_322 dX10_countOf_87 rfl sr_1_3 (by decide) ?_
          refine rs_getI (n := 93) cls_0 3 fi_0_3 (camp_o (by decide : (28 : Nat) ∈ campL)) gw_195 dX10_countOf_90 rfl ?_
          exact rs_iret dX10_countOf_93 rfl H
        · skip
          refine sw_split H (fun cs5 H => ?_) (fun cs5 H => ?_)
          · refine r_tcase (n := 94) (v := 4) (off := 93) dX10_countOf_1 cs5 (by decide) (by decide) (by decide) ?_
            refine r_aload_n (n := 95) 0 dX10_countOf_94 rfl rfl ?_
            refine r_getR (n := 98) cls_9 3 fi_9_3 so_1 gw_322 dX10_countOf_95 rfl sr_1_3 (by decide) ?_
            refine r_getR (n := 101) cls_0 1 fi_0_1 (camp_o (by decide : (28 : Nat) ∈ campL)) gw_192 dX10_countOf_98 rfl (camp_r1 (by decide : (28 : Nat) ∈ campL)) (camp_n1 (by decide : (28 : Nat) ∈ campL)) ?_
            refine rs_cVi (n := 104) (rest := []) (As := []) vm_X1_allWood gw_877 (fire_o (camp_now (by decide : (28 : Nat) ∈ campL))) cq_1 dX10_countOf_101 rfl rfl (Nat.le_of_ble_eq_true rfl) rfl (CI.mono H (fun r6 I7 X8 H => ?_))
            exact rs_iret dX10_countOf_104 rfl H
          · skip
            refine sw_split H (fun cs9 H => ?_) (fun cs9 H => ?_)
            · refine r_tcase (n := 105) (v := 5) (off := 104) dX10_countOf_1 cs9 (by decide) (by decide) (by decide) ?_
              refine r_aload_n (n := 106) 0 dX10_countOf_105 rfl rfl ?_
              refine r_getR (n := 109) cls_9 2 fi_9_2 so_1 gw_321 dX10_countOf_106 rfl sr_1_2 (by decide) ?_
              refine r_iconst (n := 110) (v := 1) dX10_countOf_109 ki_1 rfl ?_
              refine rs_cVi (n := 113) (rest := []) (As := [.int _]) vm_X3_countOf gw_979 (lane_o (by decide : (24 : Nat) ∈ laneL)) cq_2 dX10_countOf_110 rfl rfl (Nat.le_of_ble_eq_true rfl) rfl (CI.mono H (fun r10 I11 X12 H => ?_))
              exact rs_iret dX10_countOf_113 rfl H
            · skip
              refine sw_split H (fun cs13 H => ?_) (fun cs13 H => ?_)
              · refine r_tcase (n := 114) (v := 6) (off := 113) dX10_countOf_1 cs13 (by decide) (by decide) (by decide) ?_
                refine r_aload_n (n := 115) 0 dX10_countOf_114 rfl rfl ?_
                refine rs_cVi (n := 118) (rest := []) (As := []) vm_X10_rowsThere gw_984 so_1 cq_9 dX10_countOf_115 rfl rfl (Nat.le_of_ble_eq_true rfl) rfl (CI.mono H (fun r14 I15 X16 H => ?_))
                exact rs_iret dX10_countOf_118 rfl H
              · skip
                refine sw_split H (fun cs17 H => ?_) (fun cs17 H => ?_)
                · refine r_tcase (n := 119) (v := 7) (off := 118) dX10_countOf_1 cs17 (by decide) (by decide) (by decide) ?_
                  refine r_aload_n (n := 120) 0 dX10_countOf_119 rfl rfl ?_
                  refine rs_cVi (n := 123) (rest := []) (As := []) vm_X10_textsThere gw_988 so_1 cq_9 dX10_countOf_120 rfl rfl (Nat.le_of_ble_eq_true rfl) rfl (CI.mono H (fun r18 I19 X20 H => ?_))
                  exact rs_iret dX10_countOf_123 rfl H
                · skip
                  refine r_tout (n := 124) dX10_countOf_1 (by have e0 := lv_neT cs1 (a := 0) (by decide); have e1 := lv_neT cs2 (a := 1) (by decide); have e2 := lv_neT cs3 (a := 2) (by decide); have e3 := lv_neT cs4 (a := 3) (by decide); have e4 := lv_neT cs5 (a := 4) (by decide); have e5 := lv_neT cs9 (a := 5) (by decide); have e6 := lv_neT cs13 (a := 6) (by decide); have e7 := lv_neT cs17 (a := 7) (by decide); omega) (by decide) ?_
                  refine r_aload_n (n := 125) 0 dX10_countOf_124 rfl rfl ?_
                  refine rs_cVi (n := 128) (rest := []) (As := []) vm_X10_keptThere gw_992 so_1 cq_9 dX10_countOf_125 rfl rfl (Nat.le_of_ble_eq_true rfl) rfl (CI.mono H (fun r21 I22 X23 H => ?_))
                  exact rs_iret dX10_countOf_128 rfl H
set_option maxRecDepth 20000 in
theorem en_X10_rowsThere {g : OG} {d : Nat} {I : IT} {X : XT} {K : Int32 → IT → XT → Prop}  
    (H : SR g (d + 1) iX10_rowsThere 4 [(0, rf g 1), (1, .int 0), (2, .int 0)] I X (qI K)) : CI g (d + 1) iX10_rowsThere [rf g 1] I X K := by
  refine ocall_of (by decide) (Nat.le_of_ble_eq_true rfl) ?_
  show SR g (d + 1) iX10_rowsThere 0 [(0, rf g 1)] I X (qI K)
  refine r_iconst (n := 1) (v := 0) dX10_rowsThere_0 ki_0 rfl ?_
  refine r_istore_n (n := 2) (lv' := [(1, .int _), (0, .ref _)]) dX10_rowsThere_1 rfl (by decide) rfl rfl ?_
  refine r_iconst (n := 3) (v := 0) dX10_rowsThere_2 ki_0 rfl ?_
  refine r_istore_n (n := 4) (lv' := [(2, .int _), (1, .int _), (0, .ref _)]) dX10_rowsThere_3 rfl (by decide) rfl rfl ?_
  exact r_sub [2, 1, 0] rfl H
set_option maxRecDepth 20000 in
theorem rg_X10_rowsThere_4 {g : OG} {d : Nat} {I : IT} {X : XT} {K : Int32 → IT → XT → Prop} {l1 : Int32} {l2 : Int32} 
    (H : (6 ≤ l2 →
        K l1 I X) ∧
      (¬ 6 ≤ l2 →
        vp_in l2 6 ∧
        CI g d iX7_isThere [rf g (rowA l2.toNatClampNeg)] I X (fun r2 I3 X4 =>
          (r2 = 0 →
            ∀ x5 : Int32, x5 = l1 + 0 →
            ∀ x6 : Int32, x6 = l2 + 1 →
            SR g (d + 1) iX10_rowsThere 4 [(0, rf g 1), (1, .int x5), (2, .int x6)] I3 X4 (qI K)) ∧
          (¬ r2 = 0 →
            ∀ x7 : Int32, x7 = l1 + 1 →
            ∀ x8 : Int32, x8 = l2 + 1 →
            SR g (d + 1) iX10_rowsThere 4 [(0, rf g 1), (1, .int x7), (2, .int x8)] I3 X4 (qI K))))) : SR g (d + 1) iX10_rowsThere 4 [(0, rf g 1), (1, .int l1), (2, .int l2)] I X (qI K) := by
  refine r_iload_n (n := 5) 2 dX10_rowsThere_4 rfl rfl ?_
  refine r_bipush (n := 7) (v := 6) dX10_rowsThere_5 kb_6 rfl ?_
  refine r_icmp_ge (n := 10) (tgt := 36) dX10_rowsThere_7 (by decide) rfl (fun c => ?_) (fun c => ?_)
  · have H := H.1 c
    refine r_iload_n (n := 37) 1 dX10_rowsThere_36 rfl rfl ?_
    exact rs_iret dX10_rowsThere_37 rfl H
  · have H := H.2 c
    refine r_iload_n (n := 11) 1 dX10_rowsThere_10 rfl rfl ?_
    refine r_aload_n (n := 12) 0 dX10_rowsThere_11 rfl rfl ?_
    refine r_getR (n := 15) cls_9 0 fi_9_0 so_1 gw_319 dX10_rowsThere_12 rfl sr_1_0 (by decide) ?_
    refine r_iload_n (n := 16) 2 dX10_rowsThere_15 rfl rfl ?_
    obtain ⟨hi1, H⟩ := H
    refine r_aald (n := 17) (z := 6) (t0 := 3) (K := "OneMatch$Row") sa_2 (by decide) (fun _ => rfl) hi1 dX10_rowsThere_16 rfl (row_el hi1) (row_nz hi1) ?_
    refine rs_cVi (n := 20) (rest := [.int _]) (As := []) vm_X7_isThere gw_418 (row_o (row_mem hi1)) cq_6 dX10_rowsThere_17 rfl rfl (Nat.le_of_ble_eq_true rfl) rfl (CI.mono H (fun r2 I3 X4 H => ?_))
    refine r_if_eq (n := 23) (tgt := 27) dX10_rowsThere_20 (by decide) rfl (fun c => ?_) (fun c => ?_)
    · have H := H.1 c
      refine r_iconst (n := 28) (v := 0) dX10_rowsThere_27 ki_0 rfl ?_
      refine r_iadd (n := 29) dX10_rowsThere_28 rfl ?_
      have H := H _ rfl
      refine r_istore_n (n := 30) (lv' := [(1, .int _), (0, .ref _), (2, .int _)]) dX10_rowsThere_29 rfl (by decide) rfl rfl ?_
      have H := H _ rfl
      refine r_iinc (n := 33) (lv' := [(2, .int _), (1, .int _), (0, .ref _)]) 2 dX10_rowsThere_30 rfl rfl (by decide) rfl rfl ?_
      refine r_goto (n := 4) dX10_rowsThere_33 (by decide) ?_
      exact r_sub [2, 1, 0] rfl H
    · have H := H.2 c
      refine r_iconst (n := 24) (v := 1) dX10_rowsThere_23 ki_1 rfl ?_
      refine r_goto (n := 28) dX10_rowsThere_24 (by decide) ?_
      refine r_iadd (n := 29) dX10_rowsThere_28 rfl ?_
      have H := H _ rfl
      refine r_istore_n (n := 30) (lv' := [(1, .int _), (0, .ref _), (2, .int _)]) dX10_rowsThere_29 rfl (by decide) rfl rfl ?_
      have H := H _ rfl
      refine r_iinc (n := 33) (lv' := [(2, .int _), (1, .int _), (0, .ref _)]) 2 dX10_rowsThere_30 rfl rfl (by decide) rfl rfl ?_
      refine r_goto (n := 4) dX10_rowsThere_33 (by decide) ?_
      exact r_sub [2, 1, 0] rfl H
set_option maxRecDepth 20000 in
theorem en_X10_textsThere {g : OG} {d : Nat} {I : IT} {X : XT} {K : Int32 → IT → XT → Prop}  
    (H : SR g (d + 1) iX10_textsThere 4 [(0, rf g 1), (1, .int 0), (2, .int 0)] I X (qI K)) : CI g (d + 1) iX10_textsThere [rf g 1] I X K := by
  refine ocall_of (by decide) (Nat.le_of_ble_eq_true rfl) ?_
  show SR g (d + 1) iX10_textsThere 0 [(0, rf g 1)] I X (qI K)
  refine r_iconst (n := 1) (v := 0) dX10_textsThere_0 ki_0 rfl ?_
  refine r_istore_n (n := 2) (lv' := [(1, .int _), (0, .ref _)]) dX10_textsThere_1 rfl (by decide) rfl rfl ?_
  refine r_iconst (n := 3) (v := 0) dX10_textsThere_2 ki_0 rfl ?_
  refine r_istore_n (n := 4) (lv' := [(2, .int _), (1, .int _), (0, .ref _)]) dX10_textsThere_3 rfl (by decide) rfl rfl ?_
  exact r_sub [2, 1, 0] rfl H
set_option maxRecDepth 20000 in
theorem rg_X10_textsThere_4 {g : OG} {d : Nat} {I : IT} {X : XT} {K : Int32 → IT → XT → Prop} {l1 : Int32} {l2 : Int32} 
    (H : (4 ≤ l2 →
        K l1 I X) ∧
      (¬ 4 ≤ l2 →
        vp_in l2 4 ∧
        CI g d iX9_isThere [rf g (textA l2.toNatClampNeg)] I X (fun r2 I3 X4 =>
          (r2 = 0 →
            ∀ x5 : Int32, x5 = l1 + 0 →
            ∀ x6 : Int32, x6 = l2 + 1 →
            SR g (d + 1) iX10_textsThere 4 [(0, rf g 1), (1, .int x5), (2, .int x6)] I3 X4 (qI K)) ∧
          (¬ r2 = 0 →
            ∀ x7 : Int32, x7 = l1 + 1 →
            ∀ x8 : Int32, x8 = l2 + 1 →
            SR g (d + 1) iX10_textsThere 4 [(0, rf g 1), (1, .int x7), (2, .int x8)] I3 X4 (qI K))))) : SR g (d + 1) iX10_textsThere 4 [(0, rf g 1), (1, .int l1), (2, .int l2)] I X (qI K) := by
  refine r_iload_n (n := 5) 2 dX10_textsThere_4 rfl rfl ?_
  refine r_iconst (n := 6) (v := 4) dX10_textsThere_5 ki_4 rfl ?_
  refine r_icmp_ge (n := 9) (tgt := 35) dX10_textsThere_6 (by decide) rfl (fun c => ?_) (fun c => ?_)
  · have H := H.1 c
    refine r_iload_n (n := 36) 1 dX10_textsThere_35 rfl rfl ?_
    exact rs_iret dX10_textsThere_36 rfl H
  · have H := H.2 c
    refine r_iload_n (n := 10) 1 dX10_textsThere_9 rfl rfl ?_
    refine r_aload_n (n := 11) 0 dX10_textsThere_10 rfl rfl ?_
    refine r_getR (n := 14) cls_9 1 fi_9_1 so_1 gw_320 dX10_textsThere_11 rfl sr_1_1 (by decide) ?_
    refine r_iload_n (n := 15) 2 dX10_textsThere_14 rfl rfl ?_
    obtain ⟨hi1, H⟩ := H
    refine r_aald (n := 16) (z := 4) (t0 := 4) (K := "OneMatch$Text") sa_15 (by decide) (fun _ => rfl) hi1 dX10_textsThere_15 rfl (text_el hi1) (text_nz hi1) ?_
    refine rs_cVi (n := 19) (rest := [.int _]) (As := []) vm_X9_isThere gw_457 (text_o (text_mem hi1)) cq_8 dX10_textsThere_16 rfl rfl (Nat.le_of_ble_eq_true rfl) rfl (CI.mono H (fun r2 I3 X4 H => ?_))
    refine r_if_eq (n := 22) (tgt := 26) dX10_textsThere_19 (by decide) rfl (fun c => ?_) (fun c => ?_)
    · have H := H.1 c
      refine r_iconst (n := 27) (v := 0) dX10_textsThere_26 ki_0 rfl ?_
      refine r_iadd (n := 28) dX10_textsThere_27 rfl ?_
      have H := H _ rfl
      refine r_istore_n (n := 29) (lv' := [(1, .int _), (0, .ref _), (2, .int _)]) dX10_textsThere_28 rfl (by decide) rfl rfl ?_
      have H := H _ rfl
      refine r_iinc (n := 32) (lv' := [(2, .int _), (1, .int _), (0, .ref _)]) 2 dX10_textsThere_29 rfl rfl (by decide) rfl rfl ?_
      refine r_goto (n := 4) dX10_textsThere_32 (by decide) ?_
      exact r_sub [2, 1, 0] rfl H
    · have H := H.2 c
      refine r_iconst (n := 23) (v := 1) dX10_textsThere_22 ki_1 rfl ?_
      refine r_goto (n := 27) dX10_textsThere_23 (by decide) ?_
      refine r_iadd (n := 28) dX10_textsThere_27 rfl ?_
      have H := H _ rfl
      refine r_istore_n (n := 29) (lv' := [(1, .int _), (0, .ref _), (2, .int _)]) dX10_textsThere_28 rfl (by decide) rfl rfl ?_
      have H := H _ rfl
      refine r_iinc (n := 32) (lv' := [(2, .int _), (1, .int _), (0, .ref _)]) 2 dX10_textsThere_29 rfl rfl (by decide) rfl rfl ?_
      refine r_goto (n := 4) dX10_textsThere_32 (by decide) ?_
      exact r_sub [2, 1, 0] rfl H
set_option maxRecDepth 20000 in
theorem en_X10_keptThere {g : OG} {d : Nat} {I : IT} {X : XT} {K : Int32 → IT → XT → Prop}  
    (H : SR g (d + 1) iX10_keptThere 4 [(0, rf g 1), (1, .int 0), (2, .int 0)] I X (qI K)) : CI g (d + 1) iX10_keptThere [rf g 1] I X K := by
  refine ocall_of (by decide) (Nat.le_of_ble_eq_true rfl) ?_
  show SR g (d + 1) iX10_keptThere 0 [(0, rf g 1)] I X (qI K)
  refine r_iconst (n := 1) (v := 0) dX10_keptThere_0 ki_0 rfl ?_
  refine r_istore_n (n := 2) (lv' := [(1, .int _), (0, .ref _)]) dX10_keptThere_1 rfl (by decide) rfl rfl ?_
  refine r_iconst (n := 3) (v := 0) dX10_keptThere_2 ki_0 rfl ?_
  refine r_istore_n (n := 4) (lv' := [(2, .int _), (1, .int _), (0, .ref _)]) dX10_keptThere_3 rfl (by decide) rfl rfl ?_
  exact r_sub [2, 1, 0] rfl H
set_option maxRecDepth 20000 in
theorem rg_X10_keptThere_4 {g : OG} {d : Nat} {I : IT} {X : XT} {K : Int32 → IT → XT → Prop} {l1 : Int32} {l2 : Int32} 
    (H : (3 ≤ l2 →
        K l1 I X) ∧
      (¬ 3 ≤ l2 →
        vp_in l2 3 ∧
        ((I (keptA l2.toNatClampNeg) 4) = 0 →
          ∀ x2 : Int32, x2 = l1 + 0 →
          ∀ x3 : Int32, x3 = l2 + 1 →
          SR g (d + 1) iX10_keptThere 4 [(0, rf g 1), (1, .int x2), (2, .int x3)] I X (qI K)) ∧
        (¬ (I (keptA l2.toNatClampNeg) 4) = 0 →
          ∀ x4 : Int32, x4 = l1 + 1 →
          ∀ x5 : Int32, x5 = l2 + 1 →
          SR g (d + 1) iX10_keptThere 4 [(0, rf g 1), (1, .int x4), (2, .int x5)] I X (qI K)))) : SR g (d + 1) iX10_keptThere 4 [(0, rf g 1), (1, .int l1), (2, .int l2)] I X (qI K) := by
  refine r_iload_n (n := 5) 2 dX10_keptThere_4 rfl rfl ?_
  refine r_iconst (n := 6) (v := 3) dX10_keptThere_5 ki_3 rfl ?_
  refine r_icmp_ge (n := 9) (tgt := 35) dX10_keptThere_6 (by decide) rfl (fun c => ?_) (fun c => ?_)
  · have H := H.1 c
    refine r_iload_n (n := 36) 1 dX10_keptThere_35 rfl rfl ?_
    exact rs_iret dX10_keptThere_36 rfl H
  · have H := H.2 c
    refine r_iload_n (n := 10) 1 dX10_keptThere_9 rfl rfl ?_
    refine r_aload_n (n := 11) 0 dX10_keptThere_10 rfl rfl ?_
    refine r_getR (n := 14) cls_9 4 fi_9_4 so_1 gw_323 dX10_keptThere_11 rfl sr_1_4 (by decide) ?_
    refine r_iload_n (n := 15) 2 dX10_keptThere_14 rfl rfl ?_
    obtain ⟨hi1, H⟩ := H
    refine r_aald (n := 16) (z := 3) (t0 := 5) (K := "OneMatch$Campaign") sa_36 (by decide) (fun _ => rfl) hi1 dX10_keptThere_15 rfl (kept_el hi1) (kept_nz hi1) ?_
    refine rs_getI (n := 19) cls_0 4 fi_0_4 (camp_o (kept_mem hi1)) gw_197 dX10_keptThere_16 rfl ?_
    refine r_if_eq (n := 22) (tgt := 26) dX10_keptThere_19 (by decide) rfl (fun c => ?_) (fun c => ?_)
    · have H := H.1 c
      refine r_iconst (n := 27) (v := 0) dX10_keptThere_26 ki_0 rfl ?_
      refine r_iadd (n := 28) dX10_keptThere_27 rfl ?_
      have H := H _ rfl
      refine r_istore_n (n := 29) (lv' := [(1, .int _), (0, .ref _), (2, .int _)]) dX10_keptThere_28 rfl (by decide) rfl rfl ?_
      have H := H _ rfl
      refine r_iinc (n := 32) (lv' := [(2, .int _), (1, .int _), (0, .ref _)]) 2 dX10_keptThere_29 rfl rfl (by decide) rfl rfl ?_
      refine r_goto (n := 4) dX10_keptThere_32 (by decide) ?_
      exact r_sub [2, 1, 0] rfl H
    · have H := H.2 c
      refine r_iconst (n := 23) (v := 1) dX10_keptThere_22 ki_1 rfl ?_
      refine r_goto (n := 27) dX10_keptThere_23 (by decide) ?_
      refine r_iadd (n := 28) dX10_keptThere_27 rfl ?_
      have H := H _ rfl
      refine r_istore_n (n := 29) (lv' := [(1, .int _), (0, .ref _), (2, .int _)]) dX10_keptThere_28 rfl (by decide) rfl rfl ?_
      have H := H _ rfl
      refine r_iinc (n := 32) (lv' := [(2, .int _), (1, .int _), (0, .ref _)]) 2 dX10_keptThere_29 rfl rfl (by decide) rfl rfl ?_
      refine r_goto (n := 4) dX10_keptThere_32 (by decide) ?_
      exact r_sub [2, 1, 0] rfl H
set_option maxRecDepth 20000 in
theorem en_X10_planInto {g : OG} {d : Nat} {I : IT} {X : XT} {K : Int32 → IT → XT → Prop} {p1 : Nat} (hp1 : p1 ∈ rowL)
    (H : CI g d iX5_isFound [rf g 72] I X (fun r1 I2 X3 =>
        (¬ r1 = 0 →
          CV g d iX7_begin [rf g p1, .int (I2 72 5)] I2 X3 (fun I4 X5 =>
            SR g (d + 1) iX10_planInto 28 [(0, rf g 1), (1, rf g p1), (2, .int 0), (3, .int 0)] I4 X5 (qI K))) ∧
        (r1 = 0 →
          K ((-9)) I2 X3))) : CI g (d + 1) iX10_planInto [rf g 1, rf g p1] I X K := by
  refine ocall_of (by decide) (Nat.le_of_ble_eq_true rfl) ?_
  show SR g (d + 1) iX10_planInto 0 [(0, rf g 1), (1, rf g p1)] I X (qI K)
  refine r_aload_n (n := 1) 0 dX10_planInto_0 rfl rfl ?_
  refine r_getR (n := 4) cls_9 9 fi_9_9 so_1 gw_328 dX10_planInto_1 rfl sr_1_9 (by decide) ?_
  refine rs_cVi (n := 7) (rest := []) (As := []) vm_X5_isFound gw_841 so_72 cq_4 dX10_planInto_4 rfl rfl (Nat.le_of_ble_eq_true rfl) rfl (CI.mono H (fun r1 I2 X3 H => ?_))
  refine r_if_ne (n := 10) (tgt := 13) dX10_planInto_7 (by decide) rfl (fun c => ?_) (fun c => ?_)
  · have H := H.1 c
    refine r_aload_n (n := 14) 1 dX10_planInto_13 rfl rfl ?_
    refine r_aload_n (n := 15) 0 dX10_planInto_14 rfl rfl ?_
    refine r_getR (n := 18) cls_9 9 fi_9_9 so_1 gw_328 dX10_planInto_15 rfl sr_1_9 (by decide) ?_
    refine rs_getI (n := 21) cls_4 5 fi_4_5 so_72 gw_234 dX10_planInto_18 rfl ?_
    refine rs_cVv (n := 24) (rest := []) (As := [.int _]) vm_X7_begin gw_382 (row_o hp1) cq_6 dX10_planInto_21 rfl rfl (Nat.le_of_ble_eq_true rfl) rfl (CV.mono H (fun I4 X5 H => ?_))
    refine r_iconst (n := 25) (v := 0) dX10_planInto_24 ki_0 rfl ?_
    refine r_istore_n (n := 26) (lv' := [(2, .int _), (0, .ref _), (1, .ref _)]) dX10_planInto_25 rfl (by decide) rfl rfl ?_
    refine r_iconst (n := 27) (v := 0) dX10_planInto_26 ki_0 rfl ?_
    refine r_istore_n (n := 28) (lv' := [(3, .int _), (2, .int _), (0, .ref _), (1, .ref _)]) dX10_planInto_27 rfl (by decide) rfl rfl ?_
    exact r_sub [2, 3, 1, 0] rfl H
  · have H := H.2 c
    refine r_bipush (n := 12) (v := (-9)) dX10_planInto_10 kb_m9 rfl ?_
    exact rs_iret dX10_planInto_12 rfl H
set_option maxRecDepth 20000 in
theorem rg_X10_planInto_28 {g : OG} {d : Nat} {I : IT} {X : XT} {K : Int32 → IT → XT → Prop} {p1 : Nat} {l2 : Int32} {l3 : Int32} (hp1 : p1 ∈ rowL)
    (H : ((I 72 5) ≤ l3 →
        K l2 I X) ∧
      (¬ (I 72 5) ≤ l3 →
        CI g d iX5_bestMove [rf g 72, .int l3] I X (fun r1 I2 X3 =>
          CV g d iX7_set [rf g p1, .int l3, .int r1] I2 X3 (fun I4 X5 =>
            CI g d iX5_bestMove [rf g 72, .int l3] I4 X5 (fun r6 I7 X8 =>
              (¬ r6 = 36 →
                ∀ x9 : Int32, x9 = l2 + 1 →
                ∀ x10 : Int32, x10 = l3 + 1 →
                SR g (d + 1) iX10_planInto 28 [(0, rf g 1), (1, rf g p1), (2, .int x9), (3, .int x10)] I7 X8 (qI K)) ∧
              (r6 = 36 →
                ∀ x11 : Int32, x11 = l2 + 0 →
                ∀ x12 : Int32, x12 = l3 + 1 →
                SR g (d + 1) iX10_planInto 28 [(0, rf g 1), (1, rf g p1), (2, .int x11), (3, .int x12)] I7 X8 (qI K))))))) : SR g (d + 1) iX10_planInto 28 [(0, rf g 1), (1, rf g p1), (2, .int l2), (3, .int l3)] I X (qI K) := by
  refine r_iload_n (n := 29) 3 dX10_planInto_28 rfl rfl ?_
  refine r_aload_n (n := 30) 0 dX10_planInto_29 rfl rfl ?_
  refine r_getR (n := 33) cls_9 9 fi_9_9 so_1 gw_328 dX10_planInto_30 rfl sr_1_9 (by decide) ?_
  refine rs_getI (n := 36) cls_4 5 fi_4_5 so_72 gw_234 dX10_planInto_33 rfl ?_
  refine r_icmp_ge (n := 39) (tgt := 79) dX10_planInto_36 (by decide) rfl (fun c => ?_) (fun c => ?_)
  · have H := H.1 c
    refine r_iload_n (n := 80) 2 dX10_planInto_79 rfl rfl ?_
    exact rs_iret dX10_planInto_80 rfl H
  · have H := H.2 c
    refine r_aload_n (n := 40) 1 dX10_planInto_39 rfl rfl ?_
    refine r_iload_n (n := 41) 3 dX10_planInto_40 rfl rfl ?_
    refine r_aload_n (n := 42) 0 dX10_planInto_41 rfl rfl ?_
    refine r_getR (n := 45) cls_9 9 fi_9_9 so_1 gw_328 dX10_planInto_42 rfl sr_1_9 (by decide) ?_
    refine r_iload_n (n := 46) 3 dX10_planInto_45 rfl rfl ?_
    refine rs_cVi (n := 49) (rest := [.int _, .ref _]) (As := [.int _]) vm_X5_bestMove gw_842 so_72 cq_4 dX10_planInto_46 rfl rfl (Nat.le_of_ble_eq_true rfl) rfl (CI.mono H (fun r1 I2 X3 H => ?_))
    refine rs_cVv (n := 52) (rest := []) (As := [.int _, .int _]) vm_X7_set gw_406 (row_o hp1) cq_6 dX10_planInto_49 rfl rfl (Nat.le_of_ble_eq_true rfl) rfl (CV.mono H (fun I4 X5 H => ?_))
    refine r_iload_n (n := 53) 2 dX10_planInto_52 rfl rfl ?_
    refine r_aload_n (n := 54) 0 dX10_planInto_53 rfl rfl ?_
    refine r_getR (n := 57) cls_9 9 fi_9_9 so_1 gw_328 dX10_planInto_54 rfl sr_1_9 (by decide) ?_
    refine r_iload_n (n := 58) 3 dX10_planInto_57 rfl rfl ?_
    refine rs_cVi (n := 61) (rest := [.int _]) (As := [.int _]) vm_X5_bestMove gw_842 so_72 cq_4 dX10_planInto_58 rfl rfl (Nat.le_of_ble_eq_true rfl) rfl (CI.mono H (fun r6 I7 X8 H => ?_))
    refine r_bipush (n := 63) (v := 36) dX10_planInto_61 kb_36 rfl ?_
    refine r_icmp_ne (n := 66) (tgt := 70) dX10_planInto_63 (by decide) rfl (fun c => ?_) (fun c => ?_)
    · have H := H.1 c
      refine r_iconst (n := 71) (v := 1) dX10_planInto_70 ki_1 rfl ?_
      refine r_iadd (n := 72) dX10_planInto_71 rfl ?_
      have H := H _ rfl
      refine r_istore_n (n := 73) (lv' := [(2, .int _), (0, .ref _), (1, .ref _), (3, .int _)]) dX10_planInto_72 rfl (by decide) rfl rfl ?_
      have H := H _ rfl
      refine r_iinc (n := 76) (lv' := [(3, .int _), (2, .int _), (0, .ref _), (1, .ref _)]) 3 dX10_planInto_73 rfl rfl (by decide) rfl rfl ?_
      refine r_goto (n := 28) dX10_planInto_76 (by decide) ?_
      exact r_sub [2, 3, 1, 0] rfl H
    · have H := H.2 c
      refine r_iconst (n := 67) (v := 0) dX10_planInto_66 ki_0 rfl ?_
      refine r_goto (n := 71) dX10_planInto_67 (by decide) ?_
      refine r_iadd (n := 72) dX10_planInto_71 rfl ?_
      have H := H _ rfl
      refine r_istore_n (n := 73) (lv' := [(2, .int _), (0, .ref _), (1, .ref _), (3, .int _)]) dX10_planInto_72 rfl (by decide) rfl rfl ?_
      have H := H _ rfl
      refine r_iinc (n := 76) (lv' := [(3, .int _), (2, .int _), (0, .ref _), (1, .ref _)]) 3 dX10_planInto_73 rfl rfl (by decide) rfl rfl ?_
      refine r_goto (n := 28) dX10_planInto_76 (by decide) ?_
      exact r_sub [2, 3, 1, 0] rfl H
set_option maxRecDepth 20000 in
theorem en_X10_carryByLot {g : OG} {d : Nat} {I : IT} {X : XT} {K : IT → XT → Prop} {l1 : Int32} 
    (H : CI g d iX3_isEmpty [rf g 24] I X (fun r1 I2 X3 =>
        (r1 = 0 →
          ¬ (I2 24 4) = 0 ∧
          ∀ x5 : Int32, x5 = l1 - l1 / (I2 24 4) * (I2 24 4) →
          ¬ (I2 24 4) = 0 ∧
          ∀ x7 : Int32, x7 = (l1 / 16) - (l1 / 16) / (I2 24 4) * (I2 24 4) →
          CI g d iX1_canCarry [rf g (28 + 5), .int x5, .int x7] I2 X3 (fun r8 I9 X10 =>
            (r8 = 0 →
              K I9 X10) ∧
            (¬ r8 = 0 →
              CV g d iX0_act [rf g 28, .int ((6 * x5) + x7)] I9 X10 (fun I11 X12 =>
                K I11 X12)))) ∧
        (¬ r1 = 0 →
          K I2 X3))) : CV g (d + 1) iX10_carryByLot [rf g 1, .int l1] I X K := by
  refine ocall_of (by decide) (Nat.le_of_ble_eq_true rfl) ?_
  show SR g (d + 1) iX10_carryByLot 0 [(0, rf g 1), (1, .int l1)] I X (qV K)
  refine r_aload_n (n := 1) 0 dX10_carryByLot_0 rfl rfl ?_
  refine r_getR (n := 4) cls_9 2 fi_9_2 so_1 gw_321 dX10_carryByLot_1 rfl sr_1_2 (by decide) ?_
  refine rs_cVi (n := 7) (rest := []) (As := []) vm_X3_isEmpty gw_600 (lane_o (by decide : (24 : Nat) ∈ laneL)) cq_2 dX10_carryByLot_4 rfl rfl (Nat.le_of_ble_eq_true rfl) rfl (CI.mono H (fun r1 I2 X3 H => ?_))
  refine r_if_eq (n := 10) (tgt := 11) dX10_carryByLot_7 (by decide) rfl (fun c => ?_) (fun c => ?_)
  · have H := H.1 c
    refine r_iload_n (n := 12) 1 dX10_carryByLot_11 rfl rfl ?_
    refine r_aload_n (n := 13) 0 dX10_carryByLot_12 rfl rfl ?_
    refine r_getR (n := 16) cls_9 2 fi_9_2 so_1 gw_321 dX10_carryByLot_13 rfl sr_1_2 (by decide) ?_
    refine rs_getI (n := 19) cls_2 4 fi_2_4 (lane_o (by decide : (24 : Nat) ∈ laneL)) gw_138 dX10_carryByLot_16 rfl ?_
    obtain ⟨hz4, H⟩ := H
    refine r_irem (n := 20) dX10_carryByLot_19 hz4 rfl ?_
    have H := H _ rfl
    refine r_istore_n (n := 21) (lv' := [(2, .int _), (0, .ref _), (1, .int _)]) dX10_carryByLot_20 rfl (by decide) rfl rfl ?_
    refine r_iload_n (n := 22) 2 dX10_carryByLot_21 rfl rfl ?_
    refine r_bipush (n := 24) (v := 16) dX10_carryByLot_22 kb_16 rfl ?_
    refine r_idiv (n := 25) dX10_carryByLot_24 (by decide) rfl ?_
    refine r_aload_n (n := 26) 1 dX10_carryByLot_25 rfl rfl ?_
    refine r_getR (n := 29) cls_9 2 fi_9_2 so_1 gw_321 dX10_carryByLot_26 rfl sr_1_2 (by decide) ?_
    refine rs_getI (n := 32) cls_2 4 fi_2_4 (lane_o (by decide : (24 : Nat) ∈ laneL)) gw_138 dX10_carryByLot_29 rfl ?_
    obtain ⟨hz6, H⟩ := H
    refine r_irem (n := 33) dX10_carryByLot_32 hz6 rfl ?_
    have H := H _ rfl
    refine r_istore_n (n := 34) (lv' := [(3, .int _), (2, .int _), (0, .ref _), (1, .int _)]) dX10_carryByLot_33 rfl (by decide) rfl rfl ?_
    refine r_aload_n (n := 35) 2 dX10_carryByLot_34 rfl rfl ?_
    refine r_getR (n := 38) cls_9 3 fi_9_3 so_1 gw_322 dX10_carryByLot_35 rfl sr_1_3 (by decide) ?_
    refine r_getR (n := 41) cls_0 1 fi_0_1 (camp_o (by decide : (28 : Nat) ∈ campL)) gw_192 dX10_carryByLot_38 rfl (camp_r1 (by decide : (28 : Nat) ∈ campL)) (camp_n1 (by decide : (28 : Nat) ∈ campL)) ?_
    refine r_iload_n (n := 42) 1 dX10_carryByLot_41 rfl rfl ?_
    refine r_iload_n (n := 43) 0 dX10_carryByLot_42 rfl rfl ?_
    refine rs_cVi (n := 46) (rest := []) (As := [.int _, .int _]) vm_X1_canCarry gw_688 (fire_o (camp_now (by decide : (28 : Nat) ∈ campL))) cq_1 dX10_carryByLot_43 rfl rfl (Nat.le_of_ble_eq_true rfl) rfl (CI.mono H (fun r8 I9 X10 H => ?_))
    refine r_if_eq (n := 49) (tgt := 62) dX10_carryByLot_46 (by decide) rfl (fun c => ?_) (fun c => ?_)
    · have H := H.1 c
      exact rs_vret dX10_carryByLot_62 rfl H
    · have H := H.2 c
      refine r_aload_n (n := 50) 2 dX10_carryByLot_49 rfl rfl ?_
      refine r_getR (n := 53) cls_9 3 fi_9_3 so_1 gw_322 dX10_carryByLot_50 rfl sr_1_3 (by decide) ?_
      refine r_bipush (n := 55) (v := 6) dX10_carryByLot_53 kb_6 rfl ?_
      refine r_iload_n (n := 56) 1 dX10_carryByLot_55 rfl rfl ?_
      refine r_imul (n := 57) dX10_carryByLot_56 rfl ?_
      refine r_iload_n (n := 58) 0 dX10_carryByLot_57 rfl rfl ?_
      refine r_iadd (n := 59) dX10_carryByLot_58 rfl ?_
      refine rs_cVv (n := 62) (rest := []) (As := [.int _]) vm_X0_act gw_654 (camp_o (by decide : (28 : Nat) ∈ campL)) cq_0 dX10_carryByLot_59 rfl rfl (Nat.le_of_ble_eq_true rfl) rfl (CV.mono H (fun I11 X12 H => ?_))
      exact rs_vret dX10_carryByLot_62 rfl H
  · have H := H.2 c
    exact rs_vret dX10_carryByLot_10 rfl H

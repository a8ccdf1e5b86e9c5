theorem kb_m9 : (Int8.ofInt (-9)).toInt32 = (-9) := by decide
theorem kb_m4 : (Int8.ofInt (-4)).toInt32 = (-4) := by decide
theorem kb_m3 : (Int8.ofInt (-3)).toInt32 = (-3) := by decide
theorem kb_m2 : (Int8.ofInt (-2)).toInt32 = (-2) := by decide
theorem kb_6 : (Int8.ofInt 6).toInt32 = 6 := by decide
theorem kb_7 : (Int8.ofInt 7).toInt32 = 7 := by decide
theorem kb_8 : (Int8.ofInt 8).toInt32 = 8 := by decide
theorem kb_9 : (Int8.ofInt 9).toInt32 = 9 := by decide
theorem kb_10 : (Int8.ofInt 10).toInt32 = 10 := by decide
theorem kb_12 : (Int8.ofInt 12).toInt32 = 12 := by decide
theorem kb_15 : (Int8.ofInt 15).toInt32 = 15 := by decide
theorem kb_16 : (Int8.ofInt 16).toInt32 = 16 := by decide
theorem kb_17 : (Int8.ofInt 17).toInt32 = 17 := by decide
theorem kb_18 : (Int8.ofInt 18).toInt32 = 18 := by decide
theorem kb_20 : (Int8.ofInt 20).toInt32 = 20 := by decide
theorem kb_28 : (Int8.ofInt 28).toInt32 = 28 := by decide
theorem kb_32 : (Int8.ofInt 32).toInt32 = 32 := by decide
theorem kb_36 : (Int8.ofInt 36).toInt32 = 36 := by decide
theorem kb_40 : (Int8.ofInt 40).toInt32 = 40 := by decide
theorem kb_45 : (Int8.ofInt 45).toInt32 = 45 := by decide
theorem kb_48 : (Int8.ofInt 48).toInt32 = 48 := by decide
theorem kb_60 : (Int8.ofInt 60).toInt32 = 60 := by decide
theorem kb_63 : (Int8.ofInt 63).toInt32 = 63 := by decide
theorem kb_64 : (Int8.ofInt 64).toInt32 = 64 := by decide
theorem kb_100 : (Int8.ofInt 100).toInt32 = 100 := by decide
theorem kb_118 : (Int8.ofInt 118).toInt32 = 118 := by decide
theorem ki_m1 : Int32.ofInt (-1) = (-1) := by decide
theorem ki_0 : Int32.ofInt 0 = 0 := by decide
theorem ki_1 : Int32.ofInt 1 = 1 := by decide
theorem ki_2 : Int32.ofInt 2 = 2 := by decide
theorem ki_3 : Int32.ofInt 3 = 3 := by decide
theorem ki_4 : Int32.ofInt 4 = 4 := by decide
theorem ki_5 : Int32.ofInt 5 = 5 := by decide
theorem ks_720 : (Int16.ofInt 720).toInt32 = 720 := by decide
theorem ks_999 : (Int16.ofInt 999).toInt32 = 999 := by decide
theorem ks_1000 : (Int16.ofInt 1000).toInt32 = 1000 := by decide
set_option maxRecDepth 20000 in
theorem en_X0_begin {g : OG} {d : Nat} {I : IT} {X : XT} {K : IT → XT → Prop} {a : Nat} (ha : a ∈ campL)
    (H : ∀ I1 : IT, I1 = set2 I a 4 1 →
      ∀ I2 : IT, I2 = set2 I1 a 3 0 →
      CV g d iX1_become [rf g (a + 5), rf g (a + 2)] I2 X (fun I3 X4 =>
        K I3 X4)) : CV g (d + 1) iX0_begin [rf g a] I X K := by
  refine ocall_of (by decide) (Nat.le_of_ble_eq_true rfl) ?_
  show SR g (d + 1) iX0_begin 0 [(0, rf g a)] I X (qV K)
  refine r_aload_n (n := 1) 0 dX0_begin_0 rfl rfl ?_
  refine r_iconst (n := 2) (v := 1) dX0_begin_1 ki_1 rfl ?_
  have H := H _ rfl
  refine rs_putZ (n := 5) (by decide) cls_0 4 fp_0_4 (camp_o ha) gw_196 dX0_begin_2 rfl ?_
  refine r_aload_n (n := 6) 0 dX0_begin_5 rfl rfl ?_
  refine r_iconst (n := 7) (v := 0) dX0_begin_6 ki_0 rfl ?_
  have H := H _ rfl
  refine rs_putI (n := 10) cls_0 3 fp_0_3 (camp_o ha) gw_194 dX0_begin_7 rfl ?_
  refine r_aload_n (n := 11) 0 dX0_begin_10 rfl rfl ?_
  refine r_getR (n := 14) cls_0 1 fi_0_1 (camp_o ha) gw_191 dX0_begin_11 rfl (camp_r1 ha) (camp_n1 ha) ?_
  refine r_aload_n (n := 15) 0 dX0_begin_14 rfl rfl ?_
  refine r_getR (n := 18) cls_0 0 fi_0_0 (camp_o ha) gw_189 dX0_begin_15 rfl (camp_r0 ha) (camp_n0 ha) ?_
  refine rs_cVv (n := 21) (rest := []) (As := [.ref _]) vm_X1_become gw_547 (fire_o (camp_now ha)) cq_1 dX0_begin_18 rfl rfl (Nat.le_of_ble_eq_true rfl) rfl (CV.mono H (fun I3 X4 H => ?_))
  exact rs_vret dX0_begin_21 rfl H
set_option maxRecDepth 20000 in
theorem en_X0_leave {g : OG} {d : Nat} {I : IT} {X : XT} {K : IT → XT → Prop} {a : Nat} (ha : a ∈ campL)
    (H : ∀ I1 : IT, I1 = set2 I a 4 0 →
      K I1 X) : CV g (d + 1) iX0_leave [rf g a] I X K := by
  refine ocall_of (by decide) (Nat.le_of_ble_eq_true rfl) ?_
  show SR g (d + 1) iX0_leave 0 [(0, rf g a)] I X (qV K)
  refine r_aload_n (n := 1) 0 dX0_leave_0 rfl rfl ?_
  refine r_iconst (n := 2) (v := 0) dX0_leave_1 ki_0 rfl ?_
  have H := H _ rfl
  refine rs_putZ (n := 5) (by decide) cls_0 4 fp_0_4 (camp_o ha) gw_196 dX0_leave_2 rfl ?_
  exact rs_vret dX0_leave_5 rfl H
set_option maxRecDepth 20000 in
theorem en_X0_become {g : OG} {d : Nat} {I : IT} {X : XT} {K : IT → XT → Prop} {a : Nat} {p1 : Nat} (ha : a ∈ campL) (hp1 : p1 ∈ campL)
    (H : ((I p1 4) = 0 ∨ (I p1 4) = 1) ∧
      ∀ I1 : IT, I1 = set2 I a 4 (I p1 4) →
      ∀ I2 : IT, I2 = set2 I1 a 3 (I1 p1 3) →
      CV g d iX1_become [rf g (a + 2), rf g (p1 + 2)] I2 X (fun I3 X4 =>
        CV g d iX1_become [rf g (a + 5), rf g (p1 + 5)] I3 X4 (fun I5 X6 =>
          ((¬ (0 : Int32) < 0 ∧ ¬ (0 : Int32) < 0 ∧ ¬ (40 : Int32) < 0) ∧ (0 : Int32).toNatClampNeg + (40 : Int32).toNatClampNeg ≤ 40 ∧ (0 : Int32).toNatClampNeg + (40 : Int32).toNatClampNeg ≤ 40) ∧
          ∀ I7 : IT, I7 = setRow I5 (a + 1) (va_cpy (I5 (p1 + 1)) (I5 (a + 1)) (0 : Int32).toNatClampNeg (0 : Int32).toNatClampNeg (40 : Int32).toNatClampNeg) →
          K I7 X6))) : CV g (d + 1) iX0_become [rf g a, rf g p1] I X K := by
  refine ocall_of (by decide) (Nat.le_of_ble_eq_true rfl) ?_
  show SR g (d + 1) iX0_become 0 [(0, rf g a), (1, rf g p1)] I X (qV K)
  refine r_aload_n (n := 1) 0 dX0_become_0 rfl rfl ?_
  refine r_aload_n (n := 2) 1 dX0_become_1 rfl rfl ?_
  refine rs_getI (n := 5) cls_0 4 fi_0_4 (camp_o hp1) gw_196 dX0_become_2 rfl ?_
  obtain ⟨hb9, H⟩ := H
  have H := H _ rfl
  refine rs_putZ (n := 8) hb9 cls_0 4 fp_0_4 (camp_o ha) gw_196 dX0_become_5 rfl ?_
  refine r_aload_n (n := 9) 0 dX0_become_8 rfl rfl ?_
  refine r_aload_n (n := 10) 1 dX0_become_9 rfl rfl ?_
  refine rs_getI (n := 13) cls_0 3 fi_0_3 (camp_o hp1) gw_194 dX0_become_10 rfl ?_
  have H := H _ rfl
  refine rs_putI (n := 16) cls_0 3 fp_0_3 (camp_o ha) gw_194 dX0_become_13 rfl ?_
  refine r_aload_n (n := 17) 0 dX0_become_16 rfl rfl ?_
  refine r_getR (n := 20) cls_0 0 fi_0_0 (camp_o ha) gw_189 dX0_become_17 rfl (camp_r0 ha) (camp_n0 ha) ?_
  refine r_aload_n (n := 21) 1 dX0_become_20 rfl rfl ?_
  refine r_getR (n := 24) cls_0 0 fi_0_0 (camp_o hp1) gw_189 dX0_become_21 rfl (camp_r0 hp1) (camp_n0 hp1) ?_
  refine rs_cVv (n := 27) (rest := []) (As := [.ref _]) vm_X1_become gw_547 (fire_o (camp_first ha)) cq_1 dX0_become_24 rfl rfl (Nat.le_of_ble_eq_true rfl) rfl (CV.mono H (fun I3 X4 H => ?_))
  refine r_aload_n (n := 28) 0 dX0_become_27 rfl rfl ?_
  refine r_getR (n := 31) cls_0 1 fi_0_1 (camp_o ha) gw_191 dX0_become_28 rfl (camp_r1 ha) (camp_n1 ha) ?_
  refine r_aload_n (n := 32) 1 dX0_become_31 rfl rfl ?_
  refine r_getR (n := 35) cls_0 1 fi_0_1 (camp_o hp1) gw_191 dX0_become_32 rfl (camp_r1 hp1) (camp_n1 hp1) ?_
  refine rs_cVv (n := 38) (rest := []) (As := [.ref _]) vm_X1_become gw_547 (fire_o (camp_now ha)) cq_1 dX0_become_35 rfl rfl (Nat.le_of_ble_eq_true rfl) rfl (CV.mono H (fun I5 X6 H => ?_))
  refine r_aload_n (n := 39) 1 dX0_become_38 rfl rfl ?_
  refine r_getR (n := 42) cls_0 2 fi_0_2 (camp_o hp1) gw_193 dX0_become_39 rfl (camp_r2 hp1) (camp_n2 hp1) ?_
  refine r_iconst (n := 43) (v := 0) dX0_become_42 ki_0 rfl ?_
  refine r_aload_n (n := 44) 0 dX0_become_43 rfl rfl ?_
  refine r_getR (n := 47) cls_0 2 fi_0_2 (camp_o ha) gw_193 dX0_become_44 rfl (camp_r2 ha) (camp_n2 ha) ?_
  refine r_iconst (n := 48) (v := 0) dX0_become_47 ki_0 rfl ?_
  refine r_bipush (n := 50) (v := 40) dX0_become_48 kb_40 rfl ?_
  obtain ⟨hc8, H⟩ := H
  have H := H _ rfl
  refine rs_copy (n := 53) (camp_a2 hp1) (camp_a2 ha) ⟨gw_730, gw_433, gw_432, gw_75⟩ hc8 (Nat.le_of_ble_eq_true rfl) dX0_become_50 rfl ?_
  exact rs_vret dX0_become_53 rfl H
set_option maxRecDepth 20000 in
theorem en_X0_restack {g : OG} {d : Nat} {I : IT} {X : XT} {K : IT → XT → Prop} {a : Nat} {l1 : Int32} {l2 : Int32} (ha : a ∈ campL)
    (H : CI g d iX1_wetOf [rf g (a + 2), .int l1] I X (fun r1 I2 X3 =>
        CV g d iX1_furnish [rf g (a + 2), .int l1, .int l2, .int r1] I2 X3 (fun I4 X5 =>
          CI g d iX1_wetOf [rf g (a + 5), .int l1] I4 X5 (fun r6 I7 X8 =>
            CV g d iX1_furnish [rf g (a + 5), .int l1, .int l2, .int r6] I7 X8 (fun I9 X10 =>
              K I9 X10))))) : CV g (d + 1) iX0_restack [rf g a, .int l1, .int l2] I X K := by
  refine ocall_of (by decide) (Nat.le_of_ble_eq_true rfl) ?_
  show SR g (d + 1) iX0_restack 0 [(0, rf g a), (1, .int l1), (2, .int l2)] I X (qV K)
  refine r_aload_n (n := 1) 0 dX0_restack_0 rfl rfl ?_
  refine r_getR (n := 4) cls_0 0 fi_0_0 (camp_o ha) gw_189 dX0_restack_1 rfl (camp_r0 ha) (camp_n0 ha) ?_
  refine r_iload_n (n := 5) 1 dX0_restack_4 rfl rfl ?_
  refine r_iload_n (n := 6) 2 dX0_restack_5 rfl rfl ?_
  refine r_aload_n (n := 7) 0 dX0_restack_6 rfl rfl ?_
  refine r_getR (n := 10) cls_0 0 fi_0_0 (camp_o ha) gw_189 dX0_restack_7 rfl (camp_r0 ha) (camp_n0 ha) ?_
  refine r_iload_n (n := 11) 1 dX0_restack_10 rfl rfl ?_
  refine rs_cVi (n := 14) (rest := [.int _, .int _, .ref _]) (As := [.int _]) vm_X1_wetOf gw_639 (fire_o (camp_first ha)) cq_1 dX0_restack_11 rfl rfl (Nat.le_of_ble_eq_true rfl) rfl (CI.mono H (fun r1 I2 X3 H => ?_))
  refine rs_cVv (n := 17) (rest := []) (As := [.int _, .int _, .int _]) vm_X1_furnish gw_640 (fire_o (camp_first ha)) cq_1 dX0_restack_14 rfl rfl (Nat.le_of_ble_eq_true rfl) rfl (CV.mono H (fun I4 X5 H => ?_))
  refine r_aload_n (n := 18) 0 dX0_restack_17 rfl rfl ?_
  refine r_getR (n := 21) cls_0 1 fi_0_1 (camp_o ha) gw_191 dX0_restack_18 rfl (camp_r1 ha) (camp_n1 ha) ?_
  refine r_iload_n (n := 22) 1 dX0_restack_21 rfl rfl ?_
  refine r_iload_n (n := 23) 2 dX0_restack_22 rfl rfl ?_
  refine r_aload_n (n := 24) 0 dX0_restack_23 rfl rfl ?_
  refine r_getR (n := 27) cls_0 1 fi_0_1 (camp_o ha) gw_191 dX0_restack_24 rfl (camp_r1 ha) (camp_n1 ha) ?_
  refine r_iload_n (n := 28) 1 dX0_restack_27 rfl rfl ?_
  refine rs_cVi (n := 31) (rest := [.int _, .int _, .ref _]) (As := [.int _]) vm_X1_wetOf gw_639 (fire_o (camp_now ha)) cq_1 dX0_restack_28 rfl rfl (Nat.le_of_ble_eq_true rfl) rfl (CI.mono H (fun r6 I7 X8 H => ?_))
  refine rs_cVv (n := 34) (rest := []) (As := [.int _, .int _, .int _]) vm_X1_furnish gw_640 (fire_o (camp_now ha)) cq_1 dX0_restack_31 rfl rfl (Nat.le_of_ble_eq_true rfl) rfl (CV.mono H (fun I9 X10 H => ?_))
  exact rs_vret dX0_restack_34 rfl H
set_option maxRecDepth 20000 in
theorem en_X0_hasRoom {g : OG} {d : Nat} {I : IT} {X : XT} {K : Int32 → IT → XT → Prop} {a : Nat} {l1 : Int32} (ha : a ∈ campL)
    (H : (40 < ((I a 3) + l1) →
        K 0 I X) ∧
      (¬ 40 < ((I a 3) + l1) →
        K 1 I X)) : CI g (d + 1) iX0_hasRoom [rf g a, .int l1] I X K := by
  refine ocall_of (by decide) (Nat.le_of_ble_eq_true rfl) ?_
  show SR g (d + 1) iX0_hasRoom 0 [(0, rf g a), (1, .int l1)] I X (qI K)
  refine r_aload_n (n := 1) 0 dX0_hasRoom_0 rfl rfl ?_
  refine rs_getI (n := 4) cls_0 3 fi_0_3 (camp_o ha) gw_194 dX0_hasRoom_1 rfl ?_
  refine r_iload_n (n := 5) 1 dX0_hasRoom_4 rfl rfl ?_
  refine r_iadd (n := 6) dX0_hasRoom_5 rfl ?_
  refine r_bipush (n := 8) (v := 40) dX0_hasRoom_6 kb_40 rfl ?_
  refine r_icmp_gt (n := 11) (tgt := 15) dX0_hasRoom_8 (by decide) rfl (fun c => ?_) (fun c => ?_)
  · have H := H.1 c
    refine r_iconst (n := 16) (v := 0) dX0_hasRoom_15 ki_0 rfl ?_
    exact rs_zret dX0_hasRoom_16 rfl (by decide) H
  · have H := H.2 c
    refine r_iconst (n := 12) (v := 1) dX0_hasRoom_11 ki_1 rfl ?_
    refine r_goto (n := 16) dX0_hasRoom_12 (by decide) ?_
    exact rs_zret dX0_hasRoom_16 rfl (by decide) H
set_option maxRecDepth 20000 in
theorem en_X0_act {g : OG} {d : Nat} {I : IT} {X : XT} {K : IT → XT → Prop} {a : Nat} {l1 : Int32} (ha : a ∈ campL)
    (H : ((I a 3) < 0 →
        K I X) ∧
      (¬ (I a 3) < 0 →
        (40 ≤ (I a 3) →
          K I X) ∧
        (¬ 40 ≤ (I a 3) →
          vp_in (I a 3) 40 ∧
          ∀ I2 : IT, I2 = set2 I (a + 1) (I a 3).toNatClampNeg l1 →
          ∀ I3 : IT, I3 = set2 I2 a 3 ((I2 a 3) + 1) →
          CV g d iX1_act [rf g (a + 5), .int l1] I3 X (fun I4 X5 =>
            K I4 X5)))) : CV g (d + 1) iX0_act [rf g a, .int l1] I X K := by
  refine ocall_of (by decide) (Nat.le_of_ble_eq_true rfl) ?_
  show SR g (d + 1) iX0_act 0 [(0, rf g a), (1, .int l1)] I X (qV K)
  refine r_aload_n (n := 1) 0 dX0_act_0 rfl rfl ?_
  refine rs_getI (n := 4) cls_0 3 fi_0_3 (camp_o ha) gw_194 dX0_act_1 rfl ?_
  refine r_if_lt (n := 7) (tgt := 44) dX0_act_4 (by decide) rfl (fun c => ?_) (fun c => ?_)
  · have H := H.1 c
    exact rs_vret dX0_act_44 rfl H
  · have H := H.2 c
    refine r_aload_n (n := 8) 0 dX0_act_7 rfl rfl ?_
    refine rs_getI (n := 11) cls_0 3 fi_0_3 (camp_o ha) gw_194 dX0_act_8 rfl ?_
    refine r_bipush (n := 13) (v := 40) dX0_act_11 kb_40 rfl ?_
    refine r_icmp_ge (n := 16) (tgt := 44) dX0_act_13 (by decide) rfl (fun c => ?_) (fun c => ?_)
    · have H := H.1 c
      exact rs_vret dX0_act_44 rfl H
    · have H := H.2 c
      refine r_aload_n (n := 17) 0 dX0_act_16 rfl rfl ?_
      refine r_getR (n := 20) cls_0 2 fi_0_2 (camp_o ha) gw_193 dX0_act_17 rfl (camp_r2 ha) (camp_n2 ha) ?_
      refine r_aload_n (n := 21) 0 dX0_act_20 rfl rfl ?_
      refine rs_getI (n := 24) cls_0 3 fi_0_3 (camp_o ha) gw_194 dX0_act_21 rfl ?_
      refine r_iload_n (n := 25) 1 dX0_act_24 rfl rfl ?_
      obtain ⟨hi1, H⟩ := H
      have H := H _ rfl
      refine rs_iast (n := 26) (camp_a2 ha) hi1 dX0_act_25 rfl ?_
      refine r_aload_n (n := 27) 0 dX0_act_26 rfl rfl ?_
      refine r_dup (n := 28) dX0_act_27 rfl rfl ?_
      refine rs_getI (n := 31) cls_0 3 fi_0_3 (camp_o ha) gw_194 dX0_act_28 rfl ?_
      refine r_iconst (n := 32) (v := 1) dX0_act_31 ki_1 rfl ?_
      refine r_iadd (n := 33) dX0_act_32 rfl ?_
      have H := H _ rfl
      refine rs_putI (n := 36) cls_0 3 fp_0_3 (camp_o ha) gw_194 dX0_act_33 rfl ?_
      refine r_aload_n (n := 37) 0 dX0_act_36 rfl rfl ?_
      refine r_getR (n := 40) cls_0 1 fi_0_1 (camp_o ha) gw_191 dX0_act_37 rfl (camp_r1 ha) (camp_n1 ha) ?_
      refine r_iload_n (n := 41) 1 dX0_act_40 rfl rfl ?_
      refine rs_cVv (n := 44) (rest := []) (As := [.int _]) vm_X1_act gw_658 (fire_o (camp_now ha)) cq_1 dX0_act_41 rfl rfl (Nat.le_of_ble_eq_true rfl) rfl (CV.mono H (fun I4 X5 H => ?_))
      exact rs_vret dX0_act_44 rfl H
set_option maxRecDepth 20000 in
theorem en_X0_goBack {g : OG} {d : Nat} {I : IT} {X : XT} {K : Int32 → IT → XT → Prop} {a : Nat} {l1 : Int32} (ha : a ∈ campL)
    (H : ∀ x1 : Int32, x1 = (I a 3) - l1 →
      ∀ I2 : IT, I2 = set2 I a 3 l1 →
      CV g d iX1_become [rf g (a + 5), rf g (a + 2)] I2 X (fun I3 X4 =>
        SR g (d + 1) iX0_goBack 25 [(0, rf g a), (1, .int l1), (2, .int x1), (3, .int 0)] I3 X4 (qI K))) : CI g (d + 1) iX0_goBack [rf g a, .int l1] I X K := by
  refine ocall_of (by decide) (Nat.le_of_ble_eq_true rfl) ?_
  show SR g (d + 1) iX0_goBack 0 [(0, rf g a), (1, .int l1)] I X (qI K)
  refine r_aload_n (n := 1) 0 dX0_goBack_0 rfl rfl ?_
  refine rs_getI (n := 4) cls_0 3 fi_0_3 (camp_o ha) gw_194 dX0_goBack_1 rfl ?_
  refine r_iload_n (n := 5) 1 dX0_goBack_4 rfl rfl ?_
  refine r_isub (n := 6) dX0_goBack_5 rfl ?_
  have H := H _ rfl
  refine r_istore_n (n := 7) (lv' := [(2, .int _), (0, .ref _), (1, .int _)]) dX0_goBack_6 rfl (by decide) rfl rfl ?_
  refine r_aload_n (n := 8) 1 dX0_goBack_7 rfl rfl ?_
  refine r_iload_n (n := 9) 2 dX0_goBack_8 rfl rfl ?_
  have H := H _ rfl
  refine rs_putI (n := 12) cls_0 3 fp_0_3 (camp_o ha) gw_194 dX0_goBack_9 rfl ?_
  refine r_aload_n (n := 13) 1 dX0_goBack_12 rfl rfl ?_
  refine r_getR (n := 16) cls_0 1 fi_0_1 (camp_o ha) gw_191 dX0_goBack_13 rfl (camp_r1 ha) (camp_n1 ha) ?_
  refine r_aload_n (n := 17) 1 dX0_goBack_16 rfl rfl ?_
  refine r_getR (n := 20) cls_0 0 fi_0_0 (camp_o ha) gw_189 dX0_goBack_17 rfl (camp_r0 ha) (camp_n0 ha) ?_
  refine rs_cVv (n := 23) (rest := []) (As := [.ref _]) vm_X1_become gw_547 (fire_o (camp_now ha)) cq_1 dX0_goBack_20 rfl rfl (Nat.le_of_ble_eq_true rfl) rfl (CV.mono H (fun I3 X4 H => ?_))
  refine r_iconst (n := 24) (v := 0) dX0_goBack_23 ki_0 rfl ?_
  refine r_istore_n (n := 25) (lv' := [(3, .int _), (2, .int _), (0, .ref _), (1, .int _)]) dX0_goBack_24 rfl (by decide) rfl rfl ?_
  exact r_sub [2, 3, 1, 0] rfl H
set_option maxRecDepth 20000 in
theorem rg_X0_goBack_25 {g : OG} {d : Nat} {I : IT} {X : XT} {K : Int32 → IT → XT → Prop} {a : Nat} {l1 : Int32} {l2 : Int32} {l3 : Int32} (ha : a ∈ campL)
    (H : (l1 ≤ l3 →
        K l2 I X) ∧
      (¬ l1 ≤ l3 →
        (40 ≤ l3 →
          K l2 I X) ∧
        (¬ 40 ≤ l3 →
          vp_in l3 40 ∧
          CV g d iX1_act [rf g (a + 5), .int (I (a + 1) l3.toNatClampNeg)] I X (fun I2 X3 =>
            ∀ x4 : Int32, x4 = l3 + 1 →
            SR g (d + 1) iX0_goBack 25 [(0, rf g a), (1, .int l1), (2, .int l2), (3, .int x4)] I2 X3 (qI K))))) : SR g (d + 1) iX0_goBack 25 [(0, rf g a), (1, .int l1), (2, .int l2), (3, .int l3)] I X (qI K) := by
  refine r_iload_n (n := 26) 3 dX0_goBack_25 rfl rfl ?_
  refine r_iload_n (n := 27) 1 dX0_goBack_26 rfl rfl ?_
  refine r_icmp_ge (n := 30) (tgt := 55) dX0_goBack_27 (by decide) rfl (fun c => ?_) (fun c => ?_)
  · have H := H.1 c
    refine r_iload_n (n := 56) 2 dX0_goBack_55 rfl rfl ?_
    exact rs_iret dX0_goBack_56 rfl H
  · have H := H.2 c
    refine r_iload_n (n := 31) 3 dX0_goBack_30 rfl rfl ?_
    refine r_bipush (n := 33) (v := 40) dX0_goBack_31 kb_40 rfl ?_
    refine r_icmp_ge (n := 36) (tgt := 55) dX0_goBack_33 (by decide) rfl (fun c => ?_) (fun c => ?_)
    · have H := H.1 c
      refine r_iload_n (n := 56) 2 dX0_goBack_55 rfl rfl ?_
      exact rs_iret dX0_goBack_56 rfl H
    · have H := H.2 c
      refine r_aload_n (n := 37) 0 dX0_goBack_36 rfl rfl ?_
      refine r_getR (n := 40) cls_0 1 fi_0_1 (camp_o ha) gw_191 dX0_goBack_37 rfl (camp_r1 ha) (camp_n1 ha) ?_
      refine r_aload_n (n := 41) 0 dX0_goBack_40 rfl rfl ?_
      refine r_getR (n := 44) cls_0 2 fi_0_2 (camp_o ha) gw_193 dX0_goBack_41 rfl (camp_r2 ha) (camp_n2 ha) ?_
      refine r_iload_n (n := 45) 3 dX0_goBack_44 rfl rfl ?_
      obtain ⟨hi1, H⟩ := H
      refine rs_iald (n := 46) (camp_a2 ha) hi1 dX0_goBack_45 rfl ?_
      refine rs_cVv (n := 49) (rest := []) (As := [.int _]) vm_X1_act gw_658 (fire_o (camp_now ha)) cq_1 dX0_goBack_46 rfl rfl (Nat.le_of_ble_eq_true rfl) rfl (CV.mono H (fun I2 X3 H => ?_))
      have H := H _ rfl
      refine r_iinc (n := 52) (lv' := [(3, .int _), (0, .ref _), (1, .int _), (2, .int _)]) 3 dX0_goBack_49 rfl rfl (by decide) rfl rfl ?_
      refine r_goto (n := 25) dX0_goBack_52 (by decide) ?_
      exact r_sub [1, 2, 3, 0] rfl H
set_option maxRecDepth 20000 in
theorem en_X1_clear {g : OG} {d : Nat} {I : IT} {X : XT} {K : IT → XT → Prop} {a : Nat} (ha : a ∈ fireL)
    (H : ∀ I1 : IT, I1 = set2 I a 3 0 →
      ∀ I2 : IT, I2 = set2 I1 a 4 0 →
      ∀ I3 : IT, I3 = set2 I2 a 5 0 →
      ∀ I4 : IT, I4 = set2 I3 a 6 0 →
      K I4 X) : CV g (d + 1) iX1_clear [rf g a] I X K := by
  refine ocall_of (by decide) (Nat.le_of_ble_eq_true rfl) ?_
  show SR g (d + 1) iX1_clear 0 [(0, rf g a)] I X (qV K)
  refine r_aload_n (n := 1) 0 dX1_clear_0 rfl rfl ?_
  refine r_iconst (n := 2) (v := 0) dX1_clear_1 ki_0 rfl ?_
  have H := H _ rfl
  refine rs_putI (n := 5) cls_1 3 fp_1_3 (fire_o ha) gw_165 dX1_clear_2 rfl ?_
  refine r_aload_n (n := 6) 0 dX1_clear_5 rfl rfl ?_
  refine r_iconst (n := 7) (v := 0) dX1_clear_6 ki_0 rfl ?_
  have H := H _ rfl
  refine rs_putI (n := 10) cls_1 4 fp_1_4 (fire_o ha) gw_169 dX1_clear_7 rfl ?_
  refine r_aload_n (n := 11) 0 dX1_clear_10 rfl rfl ?_
  refine r_iconst (n := 12) (v := 0) dX1_clear_11 ki_0 rfl ?_
  have H := H _ rfl
  refine rs_putZ (n := 15) (by decide) cls_1 5 fp_1_5 (fire_o ha) gw_171 dX1_clear_12 rfl ?_
  refine r_aload_n (n := 16) 0 dX1_clear_15 rfl rfl ?_
  refine r_iconst (n := 17) (v := 0) dX1_clear_16 ki_0 rfl ?_
  have H := H _ rfl
  refine rs_putZ (n := 20) (by decide) cls_1 6 fp_1_6 (fire_o ha) gw_173 dX1_clear_17 rfl ?_
  exact rs_vret dX1_clear_20 rfl H
set_option maxRecDepth 20000 in
theorem en_X1_become {g : OG} {d : Nat} {I : IT} {X : XT} {K : IT → XT → Prop} {a : Nat} {p1 : Nat} (ha : a ∈ fireL) (hp1 : p1 ∈ fireL)
    (H : SR g (d + 1) iX1_become 2 [(0, rf g a), (1, rf g p1), (2, .int 0)] I X (qV K)) : CV g (d + 1) iX1_become [rf g a, rf g p1] I X K := by
  refine ocall_of (by decide) (Nat.le_of_ble_eq_true rfl) ?_
  show SR g (d + 1) iX1_become 0 [(0, rf g a), (1, rf g p1)] I X (qV K)
  refine r_iconst (n := 1) (v := 0) dX1_become_0 ki_0 rfl ?_
  refine r_istore_n (n := 2) (lv' := [(2, .int _), (0, .ref _), (1, .ref _)]) dX1_become_1 rfl (by decide) rfl rfl ?_
  exact r_sub [1, 2, 0] rfl H
set_option maxRecDepth 20000 in
theorem rg_X1_become_2 {g : OG} {d : Nat} {I : IT} {X : XT} {K : IT → XT → Prop} {a : Nat} {p1 : Nat} {l2 : Int32} (ha : a ∈ fireL) (hp1 : p1 ∈ fireL)
    (H : (5 ≤ l2 →
        ∀ I1 : IT, I1 = set2 I a 3 (I p1 3) →
        ∀ I2 : IT, I2 = set2 I1 a 4 (I1 p1 4) →
        ((I2 p1 5) = 0 ∨ (I2 p1 5) = 1) ∧
        ∀ I3 : IT, I3 = set2 I2 a 5 (I2 p1 5) →
        ((I3 p1 6) = 0 ∨ (I3 p1 6) = 1) ∧
        ∀ I4 : IT, I4 = set2 I3 a 6 (I3 p1 6) →
        K I4 X) ∧
      (¬ 5 ≤ l2 →
        vp_in l2 5 ∧
        vp_in l2 5 ∧
        ∀ I9 : IT, I9 = set2 I (a + 1) l2.toNatClampNeg (I (p1 + 1) l2.toNatClampNeg) →
        vp_in l2 5 ∧
        vp_in l2 5 ∧
        ∀ I12 : IT, I12 = set2 I9 (a + 2) l2.toNatClampNeg (I9 (p1 + 2) l2.toNatClampNeg) →
        ∀ x13 : Int32, x13 = l2 + 1 →
        SR g (d + 1) iX1_become 2 [(0, rf g a), (1, rf g p1), (2, .int x13)] I12 X (qV K))) : SR g (d + 1) iX1_become 2 [(0, rf g a), (1, rf g p1), (2, .int l2)] I X (qV K) := by
  refine r_iload_n (n := 3) 2 dX1_become_2 rfl rfl ?_
  refine r_iconst (n := 4) (v := 5) dX1_become_3 ki_5 rfl ?_
  refine r_icmp_ge (n := 7) (tgt := 37) dX1_become_4 (by decide) rfl (fun c => ?_) (fun c => ?_)
  · have H := H.1 c
    refine r_aload_n (n := 38) 0 dX1_become_37 rfl rfl ?_
    refine r_aload_n (n := 39) 1 dX1_become_38 rfl rfl ?_
    refine rs_getI (n := 42) cls_1 3 fi_1_3 (fire_o hp1) gw_165 dX1_become_39 rfl ?_
    have H := H _ rfl
    refine rs_putI (n := 45) cls_1 3 fp_1_3 (fire_o ha) gw_165 dX1_become_42 rfl ?_
    refine r_aload_n (n := 46) 0 dX1_become_45 rfl rfl ?_
    refine r_aload_n (n := 47) 1 dX1_become_46 rfl rfl ?_
    refine rs_getI (n := 50) cls_1 4 fi_1_4 (fire_o hp1) gw_169 dX1_become_47 rfl ?_
    have H := H _ rfl
    refine rs_putI (n := 53) cls_1 4 fp_1_4 (fire_o ha) gw_169 dX1_become_50 rfl ?_
    refine r_aload_n (n := 54) 0 dX1_become_53 rfl rfl ?_
    refine r_aload_n (n := 55) 1 dX1_become_54 rfl rfl ?_
    refine rs_getI (n := 58) cls_1 5 fi_1_5 (fire_o hp1) gw_171 dX1_become_55 rfl ?_
    obtain ⟨hb6, H⟩ := H
    have H := H _ rfl
    refine rs_putZ (n := 61) hb6 cls_1 5 fp_1_5 (fire_o ha) gw_171 dX1_become_58 rfl ?_
    refine r_aload_n (n := 62) 0 dX1_become_61 rfl rfl ?_
    refine r_aload_n (n := 63) 1 dX1_become_62 rfl rfl ?_
    refine rs_getI (n := 66) cls_1 6 fi_1_6 (fire_o hp1) gw_173 dX1_become_63 rfl ?_
    obtain ⟨hb5, H⟩ := H
    have H := H _ rfl
    refine rs_putZ (n := 69) hb5 cls_1 6 fp_1_6 (fire_o ha) gw_173 dX1_become_66 rfl ?_
    exact rs_vret dX1_become_69 rfl H
  · have H := H.2 c
    refine r_aload_n (n := 8) 0 dX1_become_7 rfl rfl ?_
    refine r_getR (n := 11) cls_1 1 fi_1_1 (fire_o ha) gw_163 dX1_become_8 rfl (fire_r1 ha) (fire_n1 ha) ?_
    refine r_iload_n (n := 12) 2 dX1_become_11 rfl rfl ?_
    refine r_aload_n (n := 13) 1 dX1_become_12 rfl rfl ?_
    refine r_getR (n := 16) cls_1 1 fi_1_1 (fire_o hp1) gw_163 dX1_become_13 rfl (fire_r1 hp1) (fire_n1 hp1) ?_
    refine r_iload_n (n := 17) 2 dX1_become_16 rfl rfl ?_
    obtain ⟨hi7, H⟩ := H
    refine rs_iald (n := 18) (fire_a1 hp1) hi7 dX1_become_17 rfl ?_
    obtain ⟨hi8, H⟩ := H
    have H := H _ rfl
    refine rs_iast (n := 19) (fire_a1 ha) hi8 dX1_become_18 rfl ?_
    refine r_aload_n (n := 20) 0 dX1_become_19 rfl rfl ?_
    refine r_getR (n := 23) cls_1 2 fi_1_2 (fire_o ha) gw_164 dX1_become_20 rfl (fire_r2 ha) (fire_n2 ha) ?_
    refine r_iload_n (n := 24) 2 dX1_become_23 rfl rfl ?_
    refine r_aload_n (n := 25) 1 dX1_become_24 rfl rfl ?_
    refine r_getR (n := 28) cls_1 2 fi_1_2 (fire_o hp1) gw_164 dX1_become_25 rfl (fire_r2 hp1) (fire_n2 hp1) ?_
    refine r_iload_n (n := 29) 2 dX1_become_28 rfl rfl ?_
    obtain ⟨hi10, H⟩ := H
    refine rs_iald (n := 30) (fire_a2 hp1) hi10 dX1_become_29 rfl ?_
    obtain ⟨hi11, H⟩ := H
    have H := H _ rfl
    refine rs_iast (n := 31) (fire_a2 ha) hi11 dX1_become_30 rfl ?_
    have H := H _ rfl
    refine r_iinc (n := 34) (lv' := [(2, .int _), (0, .ref _), (1, .ref _)]) 2 dX1_become_31 rfl rfl (by decide) rfl rfl ?_
    refine r_goto (n := 2) dX1_become_34 (by decide) ?_
    exact r_sub [1, 2, 0] rfl H
set_option maxRecDepth 20000 in
theorem en_X1_furnish {g : OG} {d : Nat} {I : IT} {X : XT} {K : IT → XT → Prop} {a : Nat} {l1 : Int32} {l2 : Int32} {l3 : Int32} (ha : a ∈ fireL)
    (H : (l1 < 0 →
        K I X) ∧
      (¬ l1 < 0 →
        (5 ≤ l1 →
          K I X) ∧
        (¬ 5 ≤ l1 →
          vp_in l1 5 ∧
          ∀ I2 : IT, I2 = set2 I (a + 1) l1.toNatClampNeg l2 →
          vp_in l1 5 ∧
          ∀ I4 : IT, I4 = set2 I2 (a + 2) l1.toNatClampNeg l3 →
          K I4 X))) : CV g (d + 1) iX1_furnish [rf g a, .int l1, .int l2, .int l3] I X K := by
  refine ocall_of (by decide) (Nat.le_of_ble_eq_true rfl) ?_
  show SR g (d + 1) iX1_furnish 0 [(0, rf g a), (1, .int l1), (2, .int l2), (3, .int l3)] I X (qV K)
  refine r_iload_n (n := 1) 1 dX1_furnish_0 rfl rfl ?_
  refine r_if_lt (n := 4) (tgt := 23) dX1_furnish_1 (by decide) rfl (fun c => ?_) (fun c => ?_)
  · have H := H.1 c
    exact rs_vret dX1_furnish_23 rfl H
  · have H := H.2 c
    refine r_iload_n (n := 5) 1 dX1_furnish_4 rfl rfl ?_
    refine r_iconst (n := 6) (v := 5) dX1_furnish_5 ki_5 rfl ?_
    refine r_icmp_ge (n := 9) (tgt := 23) dX1_furnish_6 (by decide) rfl (fun c => ?_) (fun c => ?_)
    · have H := H.1 c
      exact rs_vret dX1_furnish_23 rfl H
    · have H := H.2 c
      refine r_aload_n (n := 10) 0 dX1_furnish_9 rfl rfl ?_
      refine r_getR (n := 13) cls_1 1 fi_1_1 (fire_o ha) gw_163 dX1_furnish_10 rfl (fire_r1 ha) (fire_n1 ha) ?_
      refine r_iload_n (n := 14) 1 dX1_furnish_13 rfl rfl ?_
      refine r_iload_n (n := 15) 2 dX1_furnish_14 rfl rfl ?_
      obtain ⟨hi1, H⟩ := H
      have H := H _ rfl
      refine rs_iast (n := 16) (fire_a1 ha) hi1 dX1_furnish_15 rfl ?_
      refine r_aload_n (n := 17) 0 dX1_furnish_16 rfl rfl ?_
      refine r_getR (n := 20) cls_1 2 fi_1_2 (fire_o ha) gw_164 dX1_furnish_17 rfl (fire_r2 ha) (fire_n2 ha) ?_
      refine r_iload_n (n := 21) 1 dX1_furnish_20 rfl rfl ?_
      refine r_iload_n (n := 22) 3 dX1_furnish_21 rfl rfl ?_
      obtain ⟨hi3, H⟩ := H
      have H := H _ rfl
      refine rs_iast (n := 23) (fire_a2 ha) hi3 dX1_furnish_22 rfl ?_
      exact rs_vret dX1_furnish_23 rfl H
set_option maxRecDepth 20000 in
theorem en_X1_woodOf {g : OG} {d : Nat} {I : IT} {X : XT} {K : Int32 → IT → XT → Prop} {a : Nat} {l1 : Int32} (ha : a ∈ fireL)
    (H : CI g d iX3_has [rf g (laneOf a), .int l1] I X (fun r1 I2 X3 =>
        (r1 = 0 →
          K 0 I2 X3) ∧
        (¬ r1 = 0 →
          vp_in l1 5 ∧
          K (I2 (a + 1) l1.toNatClampNeg) I2 X3))) : CI g (d + 1) iX1_woodOf [rf g a, .int l1] I X K := by
  refine ocall_of (by decide) (Nat.le_of_ble_eq_true rfl) ?_
  show SR g (d + 1) iX1_woodOf 0 [(0, rf g a), (1, .int l1)] I X (qI K)
  refine r_aload_n (n := 1) 0 dX1_woodOf_0 rfl rfl ?_
  refine r_getR (n := 4) cls_1 0 fi_1_0 (fire_o ha) gw_162 dX1_woodOf_1 rfl (fire_r0 ha) (fire_n0 ha) ?_
  refine r_iload_n (n := 5) 1 dX1_woodOf_4 rfl rfl ?_
  refine rs_cVi (n := 8) (rest := []) (As := [.int _]) vm_X3_has gw_576 (lane_o (fire_lane ha)) cq_2 dX1_woodOf_5 rfl rfl (Nat.le_of_ble_eq_true rfl) rfl (CI.mono H (fun r1 I2 X3 H => ?_))
  refine r_if_eq (n := 11) (tgt := 20) dX1_woodOf_8 (by decide) rfl (fun c => ?_) (fun c => ?_)
  · have H := H.1 c
    refine r_iconst (n := 21) (v := 0) dX1_woodOf_20 ki_0 rfl ?_
    exact rs_iret dX1_woodOf_21 rfl H
  · have H := H.2 c
    refine r_aload_n (n := 12) 0 dX1_woodOf_11 rfl rfl ?_
    refine r_getR (n := 15) cls_1 1 fi_1_1 (fire_o ha) gw_163 dX1_woodOf_12 rfl (fire_r1 ha) (fire_n1 ha) ?_
    refine r_iload_n (n := 16) 1 dX1_woodOf_15 rfl rfl ?_
    obtain ⟨hi4, H⟩ := H
    refine rs_iald (n := 17) (fire_a1 ha) hi4 dX1_woodOf_16 rfl ?_
    refine r_goto (n := 21) dX1_woodOf_17 (by decide) ?_
    exact rs_iret dX1_woodOf_21 rfl H
set_option maxRecDepth 20000 in
theorem en_X1_wetOf {g : OG} {d : Nat} {I : IT} {X : XT} {K : Int32 → IT → XT → Prop} {a : Nat} {l1 : Int32} (ha : a ∈ fireL)
    (H : CI g d iX3_has [rf g (laneOf a), .int l1] I X (fun r1 I2 X3 =>
        (r1 = 0 →
          K 0 I2 X3) ∧
        (¬ r1 = 0 →
          vp_in l1 5 ∧
          K (I2 (a + 2) l1.toNatClampNeg) I2 X3))) : CI g (d + 1) iX1_wetOf [rf g a, .int l1] I X K := by
  refine ocall_of (by decide) (Nat.le_of_ble_eq_true rfl) ?_
  show SR g (d + 1) iX1_wetOf 0 [(0, rf g a), (1, .int l1)] I X (qI K)
  refine r_aload_n (n := 1) 0 dX1_wetOf_0 rfl rfl ?_
  refine r_getR (n := 4) cls_1 0 fi_1_0 (fire_o ha) gw_162 dX1_wetOf_1 rfl (fire_r0 ha) (fire_n0 ha) ?_
  refine r_iload_n (n := 5) 1 dX1_wetOf_4 rfl rfl ?_
  refine rs_cVi (n := 8) (rest := []) (As := [.int _]) vm_X3_has gw_576 (lane_o (fire_lane ha)) cq_2 dX1_wetOf_5 rfl rfl (Nat.le_of_ble_eq_true rfl) rfl (CI.mono H (fun r1 I2 X3 H => ?_))
  refine r_if_eq (n := 11) (tgt := 20) dX1_wetOf_8 (by decide) rfl (fun c => ?_) (fun c => ?_)
  · have H := H.1 c
    refine r_iconst (n := 21) (v := 0) dX1_wetOf_20 ki_0 rfl ?_
    exact rs_iret dX1_wetOf_21 rfl H
  · have H := H.2 c
    refine r_aload_n (n := 12) 0 dX1_wetOf_11 rfl rfl ?_
    refine r_getR (n := 15) cls_1 2 fi_1_2 (fire_o ha) gw_164 dX1_wetOf_12 rfl (fire_r2 ha) (fire_n2 ha) ?_
    refine r_iload_n (n := 16) 1 dX1_wetOf_15 rfl rfl ?_
    obtain ⟨hi4, H⟩ := H
    refine rs_iald (n := 17) (fire_a2 ha) hi4 dX1_wetOf_16 rfl ?_
    refine r_goto (n := 21) dX1_wetOf_17 (by decide) ?_
    exact rs_iret dX1_wetOf_21 rfl H
set_option maxRecDepth 20000 in
theorem en_X1_allWood {g : OG} {d : Nat} {I : IT} {X : XT} {K : Int32 → IT → XT → Prop} {a : Nat} (ha : a ∈ fireL)
    (H : SR g (d + 1) iX1_allWood 4 [(0, rf g a), (1, .int 0), (2, .int 0)] I X (qI K)) : CI g (d + 1) iX1_allWood [rf g a] I X K := by
  refine ocall_of (by decide) (Nat.le_of_ble_eq_true rfl) ?_
  show SR g (d + 1) iX1_allWood 0 [(0, rf g a)] I X (qI K)
  refine r_iconst (n := 1) (v := 0) dX1_allWood_0 ki_0 rfl ?_
  refine r_istore_n (n := 2) (lv' := [(1, .int _), (0, .ref _)]) dX1_allWood_1 rfl (by decide) rfl rfl ?_
  refine r_iconst (n := 3) (v := 0) dX1_allWood_2 ki_0 rfl ?_
  refine r_istore_n (n := 4) (lv' := [(2, .int _), (1, .int _), (0, .ref _)]) dX1_allWood_3 rfl (by decide) rfl rfl ?_
  exact r_sub [2, 1, 0] rfl H
set_option maxRecDepth 20000 in
theorem rg_X1_allWood_4 {g : OG} {d : Nat} {I : IT} {X : XT} {K : Int32 → IT → XT → Prop} {a : Nat} {l1 : Int32} {l2 : Int32} (ha : a ∈ fireL)
    (H : ((I (laneOf a) 4) ≤ l2 →
        K l1 I X) ∧
      (¬ (I (laneOf a) 4) ≤ l2 →
        vp_in l2 5 ∧
        ∀ x2 : Int32, x2 = l1 + (I (a + 1) l2.toNatClampNeg) →
        ∀ x3 : Int32, x3 = l2 + 1 →
        SR g (d + 1) iX1_allWood 4 [(0, rf g a), (1, .int x2), (2, .int x3)] I X (qI K))) : SR g (d + 1) iX1_allWood 4 [(0, rf g a), (1, .int l1), (2, .int l2)] I X (qI K) := by
  refine r_iload_n (n := 5) 2 dX1_allWood_4 rfl rfl ?_
  refine r_aload_n (n := 6) 0 dX1_allWood_5 rfl rfl ?_
  refine r_getR (n := 9) cls_1 0 fi_1_0 (fire_o ha) gw_162 dX1_allWood_6 rfl (fire_r0 ha) (fire_n0 ha) ?_
  refine rs_getI (n := 12) cls_2 4 fi_2_4 (lane_o (fire_lane ha)) gw_137 dX1_allWood_9 rfl ?_
  refine r_icmp_ge (n := 15) (tgt := 30) dX1_allWood_12 (by decide) rfl (fun c => ?_) (fun c => ?_)
  · have H := H.1 c
    refine r_iload_n (n := 31) 1 dX1_allWood_30 rfl rfl ?_
    exact rs_iret dX1_allWood_31 rfl H
  · have H := H.2 c
    refine r_iload_n (n := 16) 1 dX1_allWood_15 rfl rfl ?_
    refine r_aload_n (n := 17) 0 dX1_allWood_16 rfl rfl ?_
    refine r_getR (n := 20) cls_1 1 fi_1_1 (fire_o ha) gw_163 dX1_allWood_17 rfl (fire_r1 ha) (fire_n1 ha) ?_
    refine r_iload_n (n := 21) 2 dX1_allWood_20 rfl rfl ?_
    obtain ⟨hi1, H⟩ := H
    refine rs_iald (n := 22) (fire_a1 ha) hi1 dX1_allWood_21 rfl ?_
    refine r_iadd (n := 23) dX1_allWood_22 rfl ?_
    have H := H _ rfl
    refine r_istore_n (n := 24) (lv' := [(1, .int _), (0, .ref _), (2, .int _)]) dX1_allWood_23 rfl (by decide) rfl rfl ?_
    have H := H _ rfl
    refine r_iinc (n := 27) (lv' := [(2, .int _), (1, .int _), (0, .ref _)]) 2 dX1_allWood_24 rfl rfl (by decide) rfl rfl ?_
    refine r_goto (n := 4) dX1_allWood_27 (by decide) ?_
    exact r_sub [2, 1, 0] rfl H
set_option maxRecDepth 20000 in
theorem en_X1_burns {g : OG} {d : Nat} {I : IT} {X : XT} {K : Int32 → IT → XT → Prop} {a : Nat} {l1 : Int32} (ha : a ∈ fireL)
    (H : CI g d iX3_has [rf g (laneOf a), .int l1] I X (fun r1 I2 X3 =>
        (r1 = 0 →
          K 0 I2 X3) ∧
        (¬ r1 = 0 →
          ((((I2 a 3) >>> (l1 &&& 31)) &&& 1) = 0 →
            K 0 I2 X3) ∧
          (¬ (((I2 a 3) >>> (l1 &&& 31)) &&& 1) = 0 →
            K 1 I2 X3)))) : CI g (d + 1) iX1_burns [rf g a, .int l1] I X K := by
  refine ocall_of (by decide) (Nat.le_of_ble_eq_true rfl) ?_
  show SR g (d + 1) iX1_burns 0 [(0, rf g a), (1, .int l1)] I X (qI K)
  refine r_aload_n (n := 1) 0 dX1_burns_0 rfl rfl ?_
  refine r_getR (n := 4) cls_1 0 fi_1_0 (fire_o ha) gw_162 dX1_burns_1 rfl (fire_r0 ha) (fire_n0 ha) ?_
  refine r_iload_n (n := 5) 1 dX1_burns_4 rfl rfl ?_
  refine rs_cVi (n := 8) (rest := []) (As := [.int _]) vm_X3_has gw_576 (lane_o (fire_lane ha)) cq_2 dX1_burns_5 rfl rfl (Nat.le_of_ble_eq_true rfl) rfl (CI.mono H (fun r1 I2 X3 H => ?_))
  refine r_if_eq (n := 11) (tgt := 26) dX1_burns_8 (by decide) rfl (fun c => ?_) (fun c => ?_)
  · have H := H.1 c
    refine r_iconst (n := 27) (v := 0) dX1_burns_26 ki_0 rfl ?_
    exact rs_zret dX1_burns_27 rfl (by decide) H
  · have H := H.2 c
    refine r_aload_n (n := 12) 0 dX1_burns_11 rfl rfl ?_
    refine rs_getI (n := 15) cls_1 3 fi_1_3 (fire_o ha) gw_165 dX1_burns_12 rfl ?_
    refine r_iload_n (n := 16) 1 dX1_burns_15 rfl rfl ?_
    refine r_ishr (n := 17) dX1_burns_16 rfl ?_
    refine r_iconst (n := 18) (v := 1) dX1_burns_17 ki_1 rfl ?_
    refine r_iand (n := 19) dX1_burns_18 rfl ?_
    refine r_if_eq (n := 22) (tgt := 26) dX1_burns_19 (by decide) rfl (fun c => ?_) (fun c => ?_)
    · have H := H.1 c
      refine r_iconst (n := 27) (v := 0) dX1_burns_26 ki_0 rfl ?_
      exact rs_zret dX1_burns_27 rfl (by decide) H
    · have H := H.2 c
      refine r_iconst (n := 23) (v := 1) dX1_burns_22 ki_1 rfl ?_
      refine r_goto (n := 27) dX1_burns_23 (by decide) ?_
      exact rs_zret dX1_burns_27 rfl (by decide) H
set_option maxRecDepth 20000 in
theorem en_X1_catches {g : OG} {d : Nat} {I : IT} {X : XT} {K : Int32 → IT → XT → Prop} {a : Nat} {l1 : Int32} (ha : a ∈ fireL)
    (H : CI g d iX3_has [rf g (laneOf a), .int l1] I X (fun r1 I2 X3 =>
        (r1 = 0 →
          K 0 I2 X3) ∧
        (¬ r1 = 0 →
          vp_in l1 5 ∧
          ((I2 (a + 1) l1.toNatClampNeg) ≤ 0 →
            K 0 I2 X3) ∧
          (¬ (I2 (a + 1) l1.toNatClampNeg) ≤ 0 →
            vp_in l1 5 ∧
            vp_in l1 5 ∧
            CI g d iX2_dampest [.int (I2 (laneOf a + 1) l1.toNatClampNeg)] I2 X3 (fun r7 I8 X9 =>
              (r7 < (I2 (a + 2) l1.toNatClampNeg) →
                K 0 I8 X9) ∧
              (¬ r7 < (I2 (a + 2) l1.toNatClampNeg) →
                K 1 I8 X9)))))) : CI g (d + 1) iX1_catches [rf g a, .int l1] I X K := by
  refine ocall_of (by decide) (Nat.le_of_ble_eq_true rfl) ?_
  show SR g (d + 1) iX1_catches 0 [(0, rf g a), (1, .int l1)] I X (qI K)
  refine r_aload_n (n := 1) 0 dX1_catches_0 rfl rfl ?_
  refine r_getR (n := 4) cls_1 0 fi_1_0 (fire_o ha) gw_162 dX1_catches_1 rfl (fire_r0 ha) (fire_n0 ha) ?_
  refine r_iload_n (n := 5) 1 dX1_catches_4 rfl rfl ?_
  refine rs_cVi (n := 8) (rest := []) (As := [.int _]) vm_X3_has gw_576 (lane_o (fire_lane ha)) cq_2 dX1_catches_5 rfl rfl (Nat.le_of_ble_eq_true rfl) rfl (CI.mono H (fun r1 I2 X3 H => ?_))
  refine r_if_eq (n := 11) (tgt := 45) dX1_catches_8 (by decide) rfl (fun c => ?_) (fun c => ?_)
  · have H := H.1 c
    refine r_iconst (n := 46) (v := 0) dX1_catches_45 ki_0 rfl ?_
    exact rs_zret dX1_catches_46 rfl (by decide) H
  · have H := H.2 c
    refine r_aload_n (n := 12) 0 dX1_catches_11 rfl rfl ?_
    refine r_getR (n := 15) cls_1 1 fi_1_1 (fire_o ha) gw_163 dX1_catches_12 rfl (fire_r1 ha) (fire_n1 ha) ?_
    refine r_iload_n (n := 16) 1 dX1_catches_15 rfl rfl ?_
    obtain ⟨hi4, H⟩ := H
    refine rs_iald (n := 17) (fire_a1 ha) hi4 dX1_catches_16 rfl ?_
    refine r_if_le (n := 20) (tgt := 45) dX1_catches_17 (by decide) rfl (fun c => ?_) (fun c => ?_)
    · have H := H.1 c
      refine r_iconst (n := 46) (v := 0) dX1_catches_45 ki_0 rfl ?_
      exact rs_zret dX1_catches_46 rfl (by decide) H
    · have H := H.2 c
      refine r_aload_n (n := 21) 0 dX1_catches_20 rfl rfl ?_
      refine r_getR (n := 24) cls_1 2 fi_1_2 (fire_o ha) gw_164 dX1_catches_21 rfl (fire_r2 ha) (fire_n2 ha) ?_
      refine r_iload_n (n := 25) 1 dX1_catches_24 rfl rfl ?_
      obtain ⟨hi5, H⟩ := H
      refine rs_iald (n := 26) (fire_a2 ha) hi5 dX1_catches_25 rfl ?_
      refine r_aload_n (n := 27) 0 dX1_catches_26 rfl rfl ?_
      refine r_getR (n := 30) cls_1 0 fi_1_0 (fire_o ha) gw_162 dX1_catches_27 rfl (fire_r0 ha) (fire_n0 ha) ?_
      refine r_getRN (n := 33) (host := RX10) cls_2 0 fi_2_0 (lane_o (fire_lane ha)) (fun U h => h.2.1.2.1) dX1_catches_30 rfl (lane_r0 (fire_lane ha)) (lane_n0 (fire_lane ha)) ?_
      refine r_iload_n (n := 34) 1 dX1_catches_33 rfl rfl ?_
      obtain ⟨hi6, H⟩ := H
      refine rs_iald (n := 35) (lane_a0 (fire_lane ha)) hi6 dX1_catches_34 rfl ?_
      refine rs_cSi (n := 38) (rest := [.int _]) (As := [.int _]) sm_X2_dampest gw_593 dX1_catches_35 rfl rfl (Nat.le_of_ble_eq_true rfl) rfl (CI.mono H (fun r7 I8 X9 H => ?_))
      refine r_icmp_gt (n := 41) (tgt := 45) dX1_catches_38 (by decide) rfl (fun c => ?_) (fun c => ?_)
      · have H := H.1 c
        refine r_iconst (n := 46) (v := 0) dX1_catches_45 ki_0 rfl ?_
        exact rs_zret dX1_catches_46 rfl (by decide) H
      · have H := H.2 c
        refine r_iconst (n := 42) (v := 1) dX1_catches_41 ki_1 rfl ?_
        refine r_goto (n := 46) dX1_catches_42 (by decide) ?_
        exact rs_zret dX1_catches_46 rfl (by decide) H
set_option maxRecDepth 20000 in
theorem en_X1_catching {g : OG} {d : Nat} {I : IT} {X : XT} {K : Int32 → IT → XT → Prop} {a : Nat} (ha : a ∈ fireL)
    (H : SR g (d + 1) iX1_catching 4 [(0, rf g a), (1, .int 0), (2, .int 0)] I X (qI K)) : CI g (d + 1) iX1_catching [rf g a] I X K := by
  refine ocall_of (by decide) (Nat.le_of_ble_eq_true rfl) ?_
  show SR g (d + 1) iX1_catching 0 [(0, rf g a)] I X (qI K)
  refine r_iconst (n := 1) (v := 0) dX1_catching_0 ki_0 rfl ?_
  refine r_istore_n (n := 2) (lv' := [(1, .int _), (0, .ref _)]) dX1_catching_1 rfl (by decide) rfl rfl ?_
  refine r_iconst (n := 3) (v := 0) dX1_catching_2 ki_0 rfl ?_
  refine r_istore_n (n := 4) (lv' := [(2, .int _), (1, .int _), (0, .ref _)]) dX1_catching_3 rfl (by decide) rfl rfl ?_
  exact r_sub [2, 1, 0] rfl H
set_option maxRecDepth 20000 in
theorem rg_X1_catching_4 {g : OG} {d : Nat} {I : IT} {X : XT} {K : Int32 → IT → XT → Prop} {a : Nat} {l1 : Int32} {l2 : Int32} (ha : a ∈ fireL)
    (H : ((I (laneOf a) 4) ≤ l2 →
        K l1 I X) ∧
      (¬ (I (laneOf a) 4) ≤ l2 →
        CI g d iX1_catches [rf g a, .int l2] I X (fun r1 I2 X3 =>
          (r1 = 0 →
            ∀ x4 : Int32, x4 = l1 ||| 0 →
            ∀ x5 : Int32, x5 = l2 + 1 →
            SR g (d + 1) iX1_catching 4 [(0, rf g a), (1, .int x4), (2, .int x5)] I2 X3 (qI K)) ∧
          (¬ r1 = 0 →
            ∀ x6 : Int32, x6 = l1 ||| (1 <<< (l2 &&& 31)) →
            ∀ x7 : Int32, x7 = l2 + 1 →
            SR g (d + 1) iX1_catching 4 [(0, rf g a), (1, .int x6), (2, .int x7)] I2 X3 (qI K))))) : SR g (d + 1) iX1_catching 4 [(0, rf g a), (1, .int l1), (2, .int l2)] I X (qI K) := by
  refine r_iload_n (n := 5) 2 dX1_catching_4 rfl rfl ?_
  refine r_aload_n (n := 6) 0 dX1_catching_5 rfl rfl ?_
  refine r_getR (n := 9) cls_1 0 fi_1_0 (fire_o ha) gw_162 dX1_catching_6 rfl (fire_r0 ha) (fire_n0 ha) ?_
  refine rs_getI (n := 12) cls_2 4 fi_2_4 (lane_o (fire_lane ha)) gw_137 dX1_catching_9 rfl ?_
  refine r_icmp_ge (n := 15) (tgt := 39) dX1_catching_12 (by decide) rfl (fun c => ?_) (fun c => ?_)
  · have H := H.1 c
    refine r_iload_n (n := 40) 1 dX1_catching_39 rfl rfl ?_
    exact rs_iret dX1_catching_40 rfl H
  · have H := H.2 c
    refine r_iload_n (n := 16) 1 dX1_catching_15 rfl rfl ?_
    refine r_aload_n (n := 17) 0 dX1_catching_16 rfl rfl ?_
    refine r_iload_n (n := 18) 2 dX1_catching_17 rfl rfl ?_
    refine rs_cVi (n := 21) (rest := [.int _]) (As := [.int _]) vm_X1_catches gw_649 (fire_o ha) cq_1 dX1_catching_18 rfl rfl (Nat.le_of_ble_eq_true rfl) rfl (CI.mono H (fun r1 I2 X3 H => ?_))
    refine r_if_eq (n := 24) (tgt := 30) dX1_catching_21 (by decide) rfl (fun c => ?_) (fun c => ?_)
    · have H := H.1 c
      refine r_iconst (n := 31) (v := 0) dX1_catching_30 ki_0 rfl ?_
      refine r_ior (n := 32) dX1_catching_31 rfl ?_
      have H := H _ rfl
      refine r_istore_n (n := 33) (lv' := [(1, .int _), (0, .ref _), (2, .int _)]) dX1_catching_32 rfl (by decide) rfl rfl ?_
      have H := H _ rfl
      refine r_iinc (n := 36) (lv' := [(2, .int _), (1, .int _), (0, .ref _)]) 2 dX1_catching_33 rfl rfl (by decide) rfl rfl ?_
      refine r_goto (n := 4) dX1_catching_36 (by decide) ?_
      exact r_sub [2, 1, 0] rfl H
    · have H := H.2 c
      refine r_iconst (n := 25) (v := 1) dX1_catching_24 ki_1 rfl ?_
      refine r_iload_n (n := 26) 2 dX1_catching_25 rfl rfl ?_
      refine r_ishl (n := 27) dX1_catching_26 rfl ?_
      refine r_goto (n := 31) dX1_catching_27 (by decide) ?_
      refine r_ior (n := 32) dX1_catching_31 rfl ?_
      have H := H _ rfl
      refine r_istore_n (n := 33) (lv' := [(1, .int _), (0, .ref _), (2, .int _)]) dX1_catching_32 rfl (by decide) rfl rfl ?_
      have H := H _ rfl
      refine r_iinc (n := 36) (lv' := [(2, .int _), (1, .int _), (0, .ref _)]) 2 dX1_catching_33 rfl rfl (by decide) rfl rfl ?_
      refine r_goto (n := 4) dX1_catching_36 (by decide) ?_
      exact r_sub [2, 1, 0] rfl H
set_option maxRecDepth 20000 in
theorem en_X1_alight {g : OG} {d : Nat} {I : IT} {X : XT} {K : Int32 → IT → XT → Prop} {a : Nat} (ha : a ∈ fireL)
    (H : CI g d iJ6_bitCount_0f7a4 [.int (I a 3)] I X (fun r1 I2 X3 =>
        K r1 I2 X3)) : CI g (d + 1) iX1_alight [rf g a] I X K := by
  refine ocall_of (by decide) (Nat.le_of_ble_eq_true rfl) ?_
  show SR g (d + 1) iX1_alight 0 [(0, rf g a)] I X (qI K)
  refine r_aload_n (n := 1) 0 dX1_alight_0 rfl rfl ?_
  refine rs_getI (n := 4) cls_1 3 fi_1_3 (fire_o ha) gw_165 dX1_alight_1 rfl ?_
  refine rs_cSi (n := 7) (rest := []) (As := [.int _]) sm_J6_bitCount_0f7a4 gw_701 dX1_alight_4 rfl rfl (Nat.le_of_ble_eq_true rfl) rfl (CI.mono H (fun r1 I2 X3 H => ?_))
  exact rs_iret dX1_alight_7 rfl H
set_option maxRecDepth 20000 in
theorem en_X1_canStrike {g : OG} {d : Nat} {I : IT} {X : XT} {K : Int32 → IT → XT → Prop} {a : Nat} {l1 : Int32} (ha : a ∈ fireL)
    (H : (¬ (I a 5) = 0 →
        K 0 I X) ∧
      ((I a 5) = 0 →
        CI g d iX1_catches [rf g a, .int l1] I X (fun r1 I2 X3 =>
          (r1 = 0 →
            K 0 I2 X3) ∧
          (¬ r1 = 0 →
            K 1 I2 X3)))) : CI g (d + 1) iX1_canStrike [rf g a, .int l1] I X K := by
  refine ocall_of (by decide) (Nat.le_of_ble_eq_true rfl) ?_
  show SR g (d + 1) iX1_canStrike 0 [(0, rf g a), (1, .int l1)] I X (qI K)
  refine r_aload_n (n := 1) 0 dX1_canStrike_0 rfl rfl ?_
  refine rs_getI (n := 4) cls_1 5 fi_1_5 (fire_o ha) gw_171 dX1_canStrike_1 rfl ?_
  refine r_if_ne (n := 7) (tgt := 19) dX1_canStrike_4 (by decide) rfl (fun c => ?_) (fun c => ?_)
  · have H := H.1 c
    refine r_iconst (n := 20) (v := 0) dX1_canStrike_19 ki_0 rfl ?_
    exact rs_zret dX1_canStrike_20 rfl (by decide) H
  · have H := H.2 c
    refine r_aload_n (n := 8) 0 dX1_canStrike_7 rfl rfl ?_
    refine r_iload_n (n := 9) 1 dX1_canStrike_8 rfl rfl ?_
    refine rs_cVi (n := 12) (rest := []) (As := [.int _]) vm_X1_catches gw_649 (fire_o ha) cq_1 dX1_canStrike_9 rfl rfl (Nat.le_of_ble_eq_true rfl) rfl (CI.mono H (fun r1 I2 X3 H => ?_))
    refine r_if_eq (n := 15) (tgt := 19) dX1_canStrike_12 (by decide) rfl (fun c => ?_) (fun c => ?_)
    · have H := H.1 c
      refine r_iconst (n := 20) (v := 0) dX1_canStrike_19 ki_0 rfl ?_
      exact rs_zret dX1_canStrike_20 rfl (by decide) H
    · have H := H.2 c
      refine r_iconst (n := 16) (v := 1) dX1_canStrike_15 ki_1 rfl ?_
      refine r_goto (n := 20) dX1_canStrike_16 (by decide) ?_
      exact rs_zret dX1_canStrike_20 rfl (by decide) H
set_option maxRecDepth 20000 in
theorem en_X1_canCarry {g : OG} {d : Nat} {I : IT} {X : XT} {K : Int32 → IT → XT → Prop} {a : Nat} {l1 : Int32} {l2 : Int32} (ha : a ∈ fireL)
    (H : (¬ (I a 6) = 0 →
        K 0 I X) ∧
      ((I a 6) = 0 →
        CI g d iX1_burns [rf g a, .int l1] I X (fun r1 I2 X3 =>
          (r1 = 0 →
            K 0 I2 X3) ∧
          (¬ r1 = 0 →
            CI g d iX3_has [rf g (laneOf a), .int l2] I2 X3 (fun r4 I5 X6 =>
              (r4 = 0 →
                K 0 I5 X6) ∧
              (¬ r4 = 0 →
                CI g d iX1_burns [rf g a, .int l2] I5 X6 (fun r7 I8 X9 =>
                  (¬ r7 = 0 →
                    K 0 I8 X9) ∧
                  (r7 = 0 →
                    CI g d iX3_windAt [rf g (laneOf a), .int (I8 a 4)] I8 X9 (fun r10 I11 X12 =>
                      ((3 - r10) < ((if 0 ≤ (l1 - l2) then (l1 - l2) else 0 - (l1 - l2) : Int32)) →
                        K 0 I11 X12) ∧
                      (¬ (3 - r10) < ((if 0 ≤ (l1 - l2) then (l1 - l2) else 0 - (l1 - l2) : Int32)) →
                        CI g d iX1_catches [rf g a, .int l2] I11 X12 (fun r13 I14 X15 =>
                          (r13 = 0 →
                            K 0 I14 X15) ∧
                          (¬ r13 = 0 →
                            K 1 I14 X15)))))))))))) : CI g (d + 1) iX1_canCarry [rf g a, .int l1, .int l2] I X K := by
  refine ocall_of (by decide) (Nat.le_of_ble_eq_true rfl) ?_
  show SR g (d + 1) iX1_canCarry 0 [(0, rf g a), (1, .int l1), (2, .int l2)] I X (qI K)
  refine r_aload_n (n := 1) 0 dX1_canCarry_0 rfl rfl ?_
  refine rs_getI (n := 4) cls_1 6 fi_1_6 (fire_o ha) gw_173 dX1_canCarry_1 rfl ?_
  refine r_if_ne (n := 7) (tgt := 68) dX1_canCarry_4 (by decide) rfl (fun c => ?_) (fun c => ?_)
  · have H := H.1 c
    refine r_iconst (n := 69) (v := 0) dX1_canCarry_68 ki_0 rfl ?_
    exact rs_zret dX1_canCarry_69 rfl (by decide) H
  · have H := H.2 c
    refine r_aload_n (n := 8) 0 dX1_canCarry_7 rfl rfl ?_
    refine r_iload_n (n := 9) 1 dX1_canCarry_8 rfl rfl ?_
    refine rs_cVi (n := 12) (rest := []) (As := [.int _]) vm_X1_burns gw_692 (fire_o ha) cq_1 dX1_canCarry_9 rfl rfl (Nat.le_of_ble_eq_true rfl) rfl (CI.mono H (fun r1 I2 X3 H => ?_))
    refine r_if_eq (n := 15) (tgt := 68) dX1_canCarry_12 (by decide) rfl (fun c => ?_) (fun c => ?_)
    · have H := H.1 c
      refine r_iconst (n := 69) (v := 0) dX1_canCarry_68 ki_0 rfl ?_
      exact rs_zret dX1_canCarry_69 rfl (by decide) H
    · have H := H.2 c
      refine r_aload_n (n := 16) 0 dX1_canCarry_15 rfl rfl ?_
      refine r_getR (n := 19) cls_1 0 fi_1_0 (fire_o ha) gw_162 dX1_canCarry_16 rfl (fire_r0 ha) (fire_n0 ha) ?_
      refine r_iload_n (n := 20) 2 dX1_canCarry_19 rfl rfl ?_
      refine rs_cVi (n := 23) (rest := []) (As := [.int _]) vm_X3_has gw_576 (lane_o (fire_lane ha)) cq_2 dX1_canCarry_20 rfl rfl (Nat.le_of_ble_eq_true rfl) rfl (CI.mono H (fun r4 I5 X6 H => ?_))
      refine r_if_eq (n := 26) (tgt := 68) dX1_canCarry_23 (by decide) rfl (fun c => ?_) (fun c => ?_)
      · have H := H.1 c
        refine r_iconst (n := 69) (v := 0) dX1_canCarry_68 ki_0 rfl ?_
        exact rs_zret dX1_canCarry_69 rfl (by decide) H
      · have H := H.2 c
        refine r_aload_n (n := 27) 0 dX1_canCarry_26 rfl rfl ?_
        refine r_iload_n (n := 28) 2 dX1_canCarry_27 rfl rfl ?_
        refine rs_cVi (n := 31) (rest := []) (As := [.int _]) vm_X1_burns gw_692 (fire_o ha) cq_1 dX1_canCarry_28 rfl rfl (Nat.le_of_ble_eq_true rfl) rfl (CI.mono H (fun r7 I8 X9 H => ?_))
        refine r_if_ne (n := 34) (tgt := 68) dX1_canCarry_31 (by decide) rfl (fun c => ?_) (fun c => ?_)
        · have H := H.1 c
          refine r_iconst (n := 69) (v := 0) dX1_canCarry_68 ki_0 rfl ?_
          exact rs_zret dX1_canCarry_69 rfl (by decide) H
        · have H := H.2 c
          refine r_iload_n (n := 35) 1 dX1_canCarry_34 rfl rfl ?_
          refine r_iload_n (n := 36) 2 dX1_canCarry_35 rfl rfl ?_
          refine r_isub (n := 37) dX1_canCarry_36 rfl ?_
          refine r_mabs (n := 40) dX1_canCarry_37 ⟨gw_693, gw_694, gw_77, gw_695⟩ (Nat.le_of_ble_eq_true rfl) rfl ?_
          refine r_iconst (n := 41) (v := 3) dX1_canCarry_40 ki_3 rfl ?_
          refine r_aload_n (n := 42) 0 dX1_canCarry_41 rfl rfl ?_
          refine r_getR (n := 45) cls_1 0 fi_1_0 (fire_o ha) gw_162 dX1_canCarry_42 rfl (fire_r0 ha) (fire_n0 ha) ?_
          refine r_aload_n (n := 46) 0 dX1_canCarry_45 rfl rfl ?_
          refine rs_getI (n := 49) cls_1 4 fi_1_4 (fire_o ha) gw_169 dX1_canCarry_46 rfl ?_
          refine rs_cVi (n := 52) (rest := [.int _, .int _]) (As := [.int _]) vm_X3_windAt gw_696 (lane_o (fire_lane ha)) cq_2 dX1_canCarry_49 rfl rfl (Nat.le_of_ble_eq_true rfl) rfl (CI.mono H (fun r10 I11 X12 H => ?_))
          refine r_isub (n := 53) dX1_canCarry_52 rfl ?_
          refine r_icmp_gt (n := 56) (tgt := 68) dX1_canCarry_53 (by decide) rfl (fun c => ?_) (fun c => ?_)
          · have H := H.1 c
            refine r_iconst (n := 69) (v := 0) dX1_canCarry_68 ki_0 rfl ?_
            exact rs_zret dX1_canCarry_69 rfl (by decide) H
          · have H := H.2 c
            refine r_aload_n (n := 57) 0 dX1_canCarry_56 rfl rfl ?_
            refine r_iload_n (n := 58) 2 dX1_canCarry_57 rfl rfl ?_
            refine rs_cVi (n := 61) (rest := []) (As := [.int _]) vm_X1_catches gw_649 (fire_o ha) cq_1 dX1_canCarry_58 rfl rfl (Nat.le_of_ble_eq_true rfl) rfl (CI.mono H (fun r13 I14 X15 H => ?_))
            refine r_if_eq (n := 64) (tgt := 68) dX1_canCarry_61 (by decide) rfl (fun c => ?_) (fun c => ?_)
            · have H := H.1 c
              refine r_iconst (n := 69) (v := 0) dX1_canCarry_68 ki_0 rfl ?_
              exact rs_zret dX1_canCarry_69 rfl (by decide) H
            · have H := H.2 c
              refine r_iconst (n := 65) (v := 1) dX1_canCarry_64 ki_1 rfl ?_
              refine r_goto (n := 69) dX1_canCarry_65 (by decide) ?_
              exact rs_zret dX1_canCarry_69 rfl (by decide) H
set_option maxRecDepth 20000 in
theorem en_X1_canMove {g : OG} {d : Nat} {I : IT} {X : XT} {K : Int32 → IT → XT → Prop} {a : Nat} {l1 : Int32} (ha : a ∈ fireL)
    (H : (l1 < 0 →
        K 0 I X) ∧
      (¬ l1 < 0 →
        (36 ≤ l1 →
          K 0 I X) ∧
        (¬ 36 ≤ l1 →
          CI g d iX1_canCarry [rf g a, .int (l1 / 6), .int (l1 - l1 / 6 * 6)] I X (fun r1 I2 X3 =>
            (r1 = 0 →
              K 0 I2 X3) ∧
            (¬ r1 = 0 →
              K 1 I2 X3))))) : CI g (d + 1) iX1_canMove [rf g a, .int l1] I X K := by
  refine ocall_of (by decide) (Nat.le_of_ble_eq_true rfl) ?_
  show SR g (d + 1) iX1_canMove 0 [(0, rf g a), (1, .int l1)] I X (qI K)
  refine r_iload_n (n := 1) 1 dX1_canMove_0 rfl rfl ?_
  refine r_if_lt (n := 4) (tgt := 29) dX1_canMove_1 (by decide) rfl (fun c => ?_) (fun c => ?_)
  · have H := H.1 c
    refine r_iconst (n := 30) (v := 0) dX1_canMove_29 ki_0 rfl ?_
    exact rs_zret dX1_canMove_30 rfl (by decide) H
  · have H := H.2 c
    refine r_iload_n (n := 5) 1 dX1_canMove_4 rfl rfl ?_
    refine r_bipush (n := 7) (v := 36) dX1_canMove_5 kb_36 rfl ?_
    refine r_icmp_ge (n := 10) (tgt := 29) dX1_canMove_7 (by decide) rfl (fun c => ?_) (fun c => ?_)
    · have H := H.1 c
      refine r_iconst (n := 30) (v := 0) dX1_canMove_29 ki_0 rfl ?_
      exact rs_zret dX1_canMove_30 rfl (by decide) H
    · have H := H.2 c
      refine r_aload_n (n := 11) 0 dX1_canMove_10 rfl rfl ?_
      refine r_iload_n (n := 12) 1 dX1_canMove_11 rfl rfl ?_
      refine r_bipush (n := 14) (v := 6) dX1_canMove_12 kb_6 rfl ?_
      refine r_idiv (n := 15) dX1_canMove_14 (by decide) rfl ?_
      refine r_iload_n (n := 16) 1 dX1_canMove_15 rfl rfl ?_
      refine r_bipush (n := 18) (v := 6) dX1_canMove_16 kb_6 rfl ?_
      refine r_irem (n := 19) dX1_canMove_18 (by decide) rfl ?_
      refine rs_cVi (n := 22) (rest := []) (As := [.int _, .int _]) vm_X1_canCarry gw_755 (fire_o ha) cq_1 dX1_canMove_19 rfl rfl (Nat.le_of_ble_eq_true rfl) rfl (CI.mono H (fun r1 I2 X3 H => ?_))
      refine r_if_eq (n := 25) (tgt := 29) dX1_canMove_22 (by decide) rfl (fun c => ?_) (fun c => ?_)
      · have H := H.1 c
        refine r_iconst (n := 30) (v := 0) dX1_canMove_29 ki_0 rfl ?_
        exact rs_zret dX1_canMove_30 rfl (by decide) H
      · have H := H.2 c
        refine r_iconst (n := 26) (v := 1) dX1_canMove_25 ki_1 rfl ?_
        refine r_goto (n := 30) dX1_canMove_26 (by decide) ?_
        exact rs_zret dX1_canMove_30 rfl (by decide) H
set_option maxRecDepth 20000 in
theorem en_X1_reachable {g : OG} {d : Nat} {I : IT} {X : XT} {K : Int32 → IT → XT → Prop} {a : Nat} (ha : a ∈ fireL)
    (H : SR g (d + 1) iX1_reachable 4 [(0, rf g a), (1, .int 0), (2, .int 0)] I X (qI K)) : CI g (d + 1) iX1_reachable [rf g a] I X K := by
  refine ocall_of (by decide) (Nat.le_of_ble_eq_true rfl) ?_
  show SR g (d + 1) iX1_reachable 0 [(0, rf g a)] I X (qI K)
  refine r_iconst (n := 1) (v := 0) dX1_reachable_0 ki_0 rfl ?_
  refine r_istore_n (n := 2) (lv' := [(1, .int _), (0, .ref _)]) dX1_reachable_1 rfl (by decide) rfl rfl ?_
  refine r_iconst (n := 3) (v := 0) dX1_reachable_2 ki_0 rfl ?_
  refine r_istore_n (n := 4) (lv' := [(2, .int _), (1, .int _), (0, .ref _)]) dX1_reachable_3 rfl (by decide) rfl rfl ?_
  exact r_sub [2, 1, 0] rfl H
set_option maxRecDepth 20000 in
theorem rg_X1_reachable_4 {g : OG} {d : Nat} {I : IT} {X : XT} {K : Int32 → IT → XT → Prop} {a : Nat} {l1 : Int32} {l2 : Int32} (ha : a ∈ fireL)
    (H : (36 ≤ l2 →
        K l1 I X) ∧
      (¬ 36 ≤ l2 →
        CI g d iX1_canMove [rf g a, .int l2] I X (fun r1 I2 X3 =>
          (r1 = 0 →
            ∀ x4 : Int32, x4 = l1 ||| 0 →
            ∀ x5 : Int32, x5 = l2 + 1 →
            SR g (d + 1) iX1_reachable 4 [(0, rf g a), (1, .int x4), (2, .int x5)] I2 X3 (qI K)) ∧
          (¬ r1 = 0 →
            ∀ x6 : Int32, x6 = l1 ||| (1 <<< ((l2 - l2 / 6 * 6) &&& 31)) →
            ∀ x7 : Int32, x7 = l2 + 1 →
            SR g (d + 1) iX1_reachable 4 [(0, rf g a), (1, .int x6), (2, .int x7)] I2 X3 (qI K))))) : SR g (d + 1) iX1_reachable 4 [(0, rf g a), (1, .int l1), (2, .int l2)] I X (qI K) := by
  refine r_iload_n (n := 5) 2 dX1_reachable_4 rfl rfl ?_
  refine r_bipush (n := 7) (v := 36) dX1_reachable_5 kb_36 rfl ?_
  refine r_icmp_ge (n := 10) (tgt := 37) dX1_reachable_7 (by decide) rfl (fun c => ?_) (fun c => ?_)
  · have H := H.1 c
    refine r_iload_n (n := 38) 1 dX1_reachable_37 rfl rfl ?_
    exact rs_iret dX1_reachable_38 rfl H
  · have H := H.2 c
    refine r_iload_n (n := 11) 1 dX1_reachable_10 rfl rfl ?_
    refine r_aload_n (n := 12) 0 dX1_reachable_11 rfl rfl ?_
    refine r_iload_n (n := 13) 2 dX1_reachable_12 rfl rfl ?_
    refine rs_cVi (n := 16) (rest := [.int _]) (As := [.int _]) vm_X1_canMove gw_751 (fire_o ha) cq_1 dX1_reachable_13 rfl rfl (Nat.le_of_ble_eq_true rfl) rfl (CI.mono H (fun r1 I2 X3 H => ?_))
    refine r_if_eq (n := 19) (tgt := 28) dX1_reachable_16 (by decide) rfl (fun c => ?_) (fun c => ?_)
    · have H := H.1 c
      refine r_iconst (n := 29) (v := 0) dX1_reachable_28 ki_0 rfl ?_
      refine r_ior (n := 30) dX1_reachable_29 rfl ?_
      have H := H _ rfl
      refine r_istore_n (n := 31) (lv' := [(1, .int _), (0, .ref _), (2, .int _)]) dX1_reachable_30 rfl (by decide) rfl rfl ?_
      have H := H _ rfl
      refine r_iinc (n := 34) (lv' := [(2, .int _), (1, .int _), (0, .ref _)]) 2 dX1_reachable_31 rfl rfl (by decide) rfl rfl ?_
      refine r_goto (n := 4) dX1_reachable_34 (by decide) ?_
      exact r_sub [2, 1, 0] rfl H
    · have H := H.2 c
      refine r_iconst (n := 20) (v := 1) dX1_reachable_19 ki_1 rfl ?_
      refine r_iload_n (n := 21) 2 dX1_reachable_20 rfl rfl ?_
      refine r_bipush (n := 23) (v := 6) dX1_reachable_21 kb_6 rfl ?_
      refine r_irem (n := 24) dX1_reachable_23 (by decide) rfl ?_
      refine r_ishl (n := 25) dX1_reachable_24 rfl ?_
      refine r_goto (n := 29) dX1_reachable_25 (by decide) ?_
      refine r_ior (n := 30) dX1_reachable_29 rfl ?_
      have H := H _ rfl
      refine r_istore_n (n := 31) (lv' := [(1, .int _), (0, .ref _), (2, .int _)]) dX1_reachable_30 rfl (by decide) rfl rfl ?_
      have H := H _ rfl
      refine r_iinc (n := 34) (lv' := [(2, .int _), (1, .int _), (0, .ref _)]) 2 dX1_reachable_31 rfl rfl (by decide) rfl rfl ?_
      refine r_goto (n := 4) dX1_reachable_34 (by decide) ?_
      exact r_sub [2, 1, 0] rfl H
set_option maxRecDepth 20000 in
theorem en_X1_light {g : OG} {d : Nat} {I : IT} {X : XT} {K : IT → XT → Prop} {a : Nat} {l1 : Int32} (ha : a ∈ fireL)
    (H : ∀ I1 : IT, I1 = set2 I a 5 1 →
      ∀ I2 : IT, I2 = set2 I1 a 3 ((I1 a 3) ||| (1 <<< (l1 &&& 31))) →
      K I2 X) : CV g (d + 1) iX1_light [rf g a, .int l1] I X K := by
  refine ocall_of (by decide) (Nat.le_of_ble_eq_true rfl) ?_
  show SR g (d + 1) iX1_light 0 [(0, rf g a), (1, .int l1)] I X (qV K)
  refine r_aload_n (n := 1) 0 dX1_light_0 rfl rfl ?_
  refine r_iconst (n := 2) (v := 1) dX1_light_1 ki_1 rfl ?_
  have H := H _ rfl
  refine rs_putZ (n := 5) (by decide) cls_1 5 fp_1_5 (fire_o ha) gw_171 dX1_light_2 rfl ?_
  refine r_aload_n (n := 6) 0 dX1_light_5 rfl rfl ?_
  refine r_dup (n := 7) dX1_light_6 rfl rfl ?_
  refine rs_getI (n := 10) cls_1 3 fi_1_3 (fire_o ha) gw_165 dX1_light_7 rfl ?_
  refine r_iconst (n := 11) (v := 1) dX1_light_10 ki_1 rfl ?_
  refine r_iload_n (n := 12) 1 dX1_light_11 rfl rfl ?_
  refine r_ishl (n := 13) dX1_light_12 rfl ?_
  refine r_ior (n := 14) dX1_light_13 rfl ?_
  have H := H _ rfl
  refine rs_putI (n := 17) cls_1 3 fp_1_3 (fire_o ha) gw_165 dX1_light_14 rfl ?_
  exact rs_vret dX1_light_17 rfl H
set_option maxRecDepth 20000 in
theorem en_X1_bring {g : OG} {d : Nat} {I : IT} {X : XT} {K : IT → XT → Prop} {a : Nat} {l1 : Int32} (ha : a ∈ fireL)
    (H : (l1 = 36 →
        K I X) ∧
      (¬ l1 = 36 →
        ∀ I1 : IT, I1 = set2 I a 6 1 →
        ∀ I2 : IT, I2 = set2 I1 a 3 ((I1 a 3) ||| (1 <<< ((l1 - l1 / 6 * 6) &&& 31))) →
        K I2 X)) : CV g (d + 1) iX1_bring [rf g a, .int l1] I X K := by
  refine ocall_of (by decide) (Nat.le_of_ble_eq_true rfl) ?_
  show SR g (d + 1) iX1_bring 0 [(0, rf g a), (1, .int l1)] I X (qV K)
  refine r_iload_n (n := 1) 1 dX1_bring_0 rfl rfl ?_
  refine r_bipush (n := 3) (v := 36) dX1_bring_1 kb_36 rfl ?_
  refine r_icmp_eq (n := 6) (tgt := 26) dX1_bring_3 (by decide) rfl (fun c => ?_) (fun c => ?_)
  · have H := H.1 c
    exact rs_vret dX1_bring_26 rfl H
  · have H := H.2 c
    refine r_aload_n (n := 7) 0 dX1_bring_6 rfl rfl ?_
    refine r_iconst (n := 8) (v := 1) dX1_bring_7 ki_1 rfl ?_
    have H := H _ rfl
    refine rs_putZ (n := 11) (by decide) cls_1 6 fp_1_6 (fire_o ha) gw_173 dX1_bring_8 rfl ?_
    refine r_aload_n (n := 12) 0 dX1_bring_11 rfl rfl ?_
    refine r_dup (n := 13) dX1_bring_12 rfl rfl ?_
    refine rs_getI (n := 16) cls_1 3 fi_1_3 (fire_o ha) gw_165 dX1_bring_13 rfl ?_
    refine r_iconst (n := 17) (v := 1) dX1_bring_16 ki_1 rfl ?_
    refine r_iload_n (n := 18) 1 dX1_bring_17 rfl rfl ?_
    refine r_bipush (n := 20) (v := 6) dX1_bring_18 kb_6 rfl ?_
    refine r_irem (n := 21) dX1_bring_20 (by decide) rfl ?_
    refine r_ishl (n := 22) dX1_bring_21 rfl ?_
    refine r_ior (n := 23) dX1_bring_22 rfl ?_
    have H := H _ rfl
    refine rs_putI (n := 26) cls_1 3 fp_1_3 (fire_o ha) gw_165 dX1_bring_23 rfl ?_
    exact rs_vret dX1_bring_26 rfl H
set_option maxRecDepth 20000 in
theorem en_X1_pass {g : OG} {d : Nat} {I : IT} {X : XT} {K : IT → XT → Prop} {a : Nat} (ha : a ∈ fireL)
    (H : ∀ x1 : Int32, x1 = I a 3 →
      SR g (d + 1) iX1_pass 7 [(0, rf g a), (1, .int x1), (2, .int 0)] I X (qV K)) : CV g (d + 1) iX1_pass [rf g a] I X K := by
  refine ocall_of (by decide) (Nat.le_of_ble_eq_true rfl) ?_
  show SR g (d + 1) iX1_pass 0 [(0, rf g a)] I X (qV K)
  refine r_aload_n (n := 1) 0 dX1_pass_0 rfl rfl ?_
  refine rs_getI (n := 4) cls_1 3 fi_1_3 (fire_o ha) gw_165 dX1_pass_1 rfl ?_
  have H := H _ rfl
  refine r_istore_n (n := 5) (lv' := [(1, .int _), (0, .ref _)]) dX1_pass_4 rfl (by decide) rfl rfl ?_
  refine r_iconst (n := 6) (v := 0) dX1_pass_5 ki_0 rfl ?_
  refine r_istore_n (n := 7) (lv' := [(2, .int _), (1, .int _), (0, .ref _)]) dX1_pass_6 rfl (by decide) rfl rfl ?_
  exact r_sub [2, 1, 0] rfl H
set_option maxRecDepth 20000 in
theorem rg_X1_pass_7 {g : OG} {d : Nat} {I : IT} {X : XT} {K : IT → XT → Prop} {a : Nat} {l1 : Int32} {l2 : Int32} (ha : a ∈ fireL)
    (H : ((I (laneOf a) 4) ≤ l2 →
        ∀ I1 : IT, I1 = set2 I a 4 ((I a 4) + 1) →
        ∀ I2 : IT, I2 = set2 I1 a 6 0 →
        K I2 X) ∧
      (¬ (I (laneOf a) 4) ≤ l2 →
        (((l1 >>> (l2 &&& 31)) &&& 1) = 0 →
          CI g d iX1_beside [.int l2] I X (fun r3 I4 X5 =>
            ((l1 &&& r3) = 0 →
              ∀ x6 : Int32, x6 = l2 + 1 →
              SR g (d + 1) iX1_pass 7 [(0, rf g a), (1, .int l1), (2, .int x6)] I4 X5 (qV K)) ∧
            (¬ (l1 &&& r3) = 0 →
              vp_in l2 5 ∧
              vp_in l2 5 ∧
              ∀ I9 : IT, I9 = set2 I4 (a + 2) l2.toNatClampNeg ((if 0 < ((I4 (a + 2) l2.toNatClampNeg) - 1) then ((I4 (a + 2) l2.toNatClampNeg) - 1) else 0 : Int32)) →
              ∀ x10 : Int32, x10 = l2 + 1 →
              SR g (d + 1) iX1_pass 7 [(0, rf g a), (1, .int l1), (2, .int x10)] I9 X5 (qV K)))) ∧
        (¬ ((l1 >>> (l2 &&& 31)) &&& 1) = 0 →
          CV g d iX1_feed [rf g a, .int l2] I X (fun I11 X12 =>
            ∀ x13 : Int32, x13 = l2 + 1 →
            SR g (d + 1) iX1_pass 7 [(0, rf g a), (1, .int l1), (2, .int x13)] I11 X12 (qV K))))) : SR g (d + 1) iX1_pass 7 [(0, rf g a), (1, .int l1), (2, .int l2)] I X (qV K) := by
  refine r_iload_n (n := 8) 2 dX1_pass_7 rfl rfl ?_
  refine r_aload_n (n := 9) 0 dX1_pass_8 rfl rfl ?_
  refine r_getR (n := 12) cls_1 0 fi_1_0 (fire_o ha) gw_162 dX1_pass_9 rfl (fire_r0 ha) (fire_n0 ha) ?_
  refine rs_getI (n := 15) cls_2 4 fi_2_4 (lane_o (fire_lane ha)) gw_137 dX1_pass_12 rfl ?_
  refine r_icmp_ge (n := 18) (tgt := 67) dX1_pass_15 (by decide) rfl (fun c => ?_) (fun c => ?_)
  · have H := H.1 c
    refine r_aload_n (n := 68) 0 dX1_pass_67 rfl rfl ?_
    refine r_dup (n := 69) dX1_pass_68 rfl rfl ?_
    refine rs_getI (n := 72) cls_1 4 fi_1_4 (fire_o ha) gw_169 dX1_pass_69 rfl ?_
    refine r_iconst (n := 73) (v := 1) dX1_pass_72 ki_1 rfl ?_
    refine r_iadd (n := 74) dX1_pass_73 rfl ?_
    have H := H _ rfl
    refine rs_putI (n := 77) cls_1 4 fp_1_4 (fire_o ha) gw_169 dX1_pass_74 rfl ?_
    refine r_aload_n (n := 78) 0 dX1_pass_77 rfl rfl ?_
    refine r_iconst (n := 79) (v := 0) dX1_pass_78 ki_0 rfl ?_
    have H := H _ rfl
    refine rs_putZ (n := 82) (by decide) cls_1 6 fp_1_6 (fire_o ha) gw_173 dX1_pass_79 rfl ?_
    exact rs_vret dX1_pass_82 rfl H
  · have H := H.2 c
    refine r_iload_n (n := 19) 1 dX1_pass_18 rfl rfl ?_
    refine r_iload_n (n := 20) 2 dX1_pass_19 rfl rfl ?_
    refine r_ishr (n := 21) dX1_pass_20 rfl ?_
    refine r_iconst (n := 22) (v := 1) dX1_pass_21 ki_1 rfl ?_
    refine r_iand (n := 23) dX1_pass_22 rfl ?_
    refine r_if_eq (n := 26) (tgt := 34) dX1_pass_23 (by decide) rfl (fun c => ?_) (fun c => ?_)
    · have H := H.1 c
      refine r_iload_n (n := 35) 1 dX1_pass_34 rfl rfl ?_
      refine r_iload_n (n := 36) 2 dX1_pass_35 rfl rfl ?_
      refine rs_cSi (n := 39) (rest := [.int _]) (As := [.int _]) sm_X1_beside gw_677 dX1_pass_36 rfl rfl (Nat.le_of_ble_eq_true rfl) rfl (CI.mono H (fun r3 I4 X5 H => ?_))
      refine r_iand (n := 40) dX1_pass_39 rfl ?_
      refine r_if_eq (n := 43) (tgt := 61) dX1_pass_40 (by decide) rfl (fun c => ?_) (fun c => ?_)
      · have H := H.1 c
        have H := H _ rfl
        refine r_iinc (n := 64) (lv' := [(2, .int _), (0, .ref _), (1, .int _)]) 2 dX1_pass_61 rfl rfl (by decide) rfl rfl ?_
        refine r_goto (n := 7) dX1_pass_64 (by decide) ?_
        exact r_sub [1, 2, 0] rfl H
      · have H := H.2 c
        refine r_aload_n (n := 44) 0 dX1_pass_43 rfl rfl ?_
        refine r_getR (n := 47) cls_1 2 fi_1_2 (fire_o ha) gw_164 dX1_pass_44 rfl (fire_r2 ha) (fire_n2 ha) ?_
        refine r_iload_n (n := 48) 2 dX1_pass_47 rfl rfl ?_
        refine r_iconst (n := 49) (v := 0) dX1_pass_48 ki_0 rfl ?_
        refine r_aload_n (n := 50) 0 dX1_pass_49 rfl rfl ?_
        refine r_getR (n := 53) cls_1 2 fi_1_2 (fire_o ha) gw_164 dX1_pass_50 rfl (fire_r2 ha) (fire_n2 ha) ?_
        refine r_iload_n (n := 54) 2 dX1_pass_53 rfl rfl ?_
        obtain ⟨hi7, H⟩ := H
        refine rs_iald (n := 55) (fire_a2 ha) hi7 dX1_pass_54 rfl ?_
        refine r_iconst (n := 56) (v := 1) dX1_pass_55 ki_1 rfl ?_
        refine r_isub (n := 57) dX1_pass_56 rfl ?_
        refine r_mmax (n := 60) dX1_pass_57 ⟨gw_674, gw_675, gw_77, gw_676⟩ (Nat.le_of_ble_eq_true rfl) rfl ?_
        obtain ⟨hi8, H⟩ := H
        have H := H _ rfl
        refine rs_iast (n := 61) (fire_a2 ha) hi8 dX1_pass_60 rfl ?_
        have H := H _ rfl
        refine r_iinc (n := 64) (lv' := [(2, .int _), (0, .ref _), (1, .int _)]) 2 dX1_pass_61 rfl rfl (by decide) rfl rfl ?_
        refine r_goto (n := 7) dX1_pass_64 (by decide) ?_
        exact r_sub [1, 2, 0] rfl H
    · have H := H.2 c
      refine r_aload_n (n := 27) 0 dX1_pass_26 rfl rfl ?_
      refine r_iload_n (n := 28) 2 dX1_pass_27 rfl rfl ?_
      refine rs_cVv (n := 31) (rest := []) (As := [.int _]) vm_X1_feed gw_670 (fire_o ha) cq_1 dX1_pass_28 rfl rfl (Nat.le_of_ble_eq_true rfl) rfl (CV.mono H (fun I11 X12 H => ?_))
      refine r_goto (n := 61) dX1_pass_31 (by decide) ?_
      have H := H _ rfl
      refine r_iinc (n := 64) (lv' := [(2, .int _), (0, .ref _), (1, .int _)]) 2 dX1_pass_61 rfl rfl (by decide) rfl rfl ?_
      refine r_goto (n := 7) dX1_pass_64 (by decide) ?_
      exact r_sub [1, 2, 0] rfl H
set_option maxRecDepth 20000 in
theorem en_X1_feed {g : OG} {d : Nat} {I : IT} {X : XT} {K : IT → XT → Prop} {a : Nat} {l1 : Int32} (ha : a ∈ fireL)
    (H : (l1 < 0 →
        K I X) ∧
      (¬ l1 < 0 →
        (l1 < 5 →
          vp_in l1 5 ∧
          vp_in l1 5 ∧
          CI g d iX2_takes [.int (I (laneOf a + 1) l1.toNatClampNeg), .int (I a 4)] I X (fun r3 I4 X5 =>
            vp_in l1 5 ∧
            ∀ I7 : IT, I7 = set2 I4 (a + 1) l1.toNatClampNeg ((if 0 < ((I (a + 1) l1.toNatClampNeg) - r3) then ((I (a + 1) l1.toNatClampNeg) - r3) else 0 : Int32)) →
            vp_in l1 5 ∧
            (¬ (I7 (a + 1) l1.toNatClampNeg) = 0 →
              K I7 X5) ∧
            ((I7 (a + 1) l1.toNatClampNeg) = 0 →
              ∀ I9 : IT, I9 = set2 I7 a 3 ((I7 a 3) &&& ((1 <<< (l1 &&& 31)) ^^^ ((-1)))) →
              K I9 X5))) ∧
        (¬ l1 < 5 →
          K I X))) : CV g (d + 1) iX1_feed [rf g a, .int l1] I X K := by
  refine ocall_of (by decide) (Nat.le_of_ble_eq_true rfl) ?_
  show SR g (d + 1) iX1_feed 0 [(0, rf g a), (1, .int l1)] I X (qV K)
  refine r_iload_n (n := 1) 1 dX1_feed_0 rfl rfl ?_
  refine r_if_lt (n := 4) (tgt := 9) dX1_feed_1 (by decide) rfl (fun c => ?_) (fun c => ?_)
  · have H := H.1 c
    exact rs_vret dX1_feed_9 rfl H
  · have H := H.2 c
    refine r_iload_n (n := 5) 1 dX1_feed_4 rfl rfl ?_
    refine r_iconst (n := 6) (v := 5) dX1_feed_5 ki_5 rfl ?_
    refine r_icmp_lt (n := 9) (tgt := 10) dX1_feed_6 (by decide) rfl (fun c => ?_) (fun c => ?_)
    · have H := H.1 c
      refine r_aload_n (n := 11) 0 dX1_feed_10 rfl rfl ?_
      refine r_getR (n := 14) cls_1 1 fi_1_1 (fire_o ha) gw_163 dX1_feed_11 rfl (fire_r1 ha) (fire_n1 ha) ?_
      refine r_iload_n (n := 15) 1 dX1_feed_14 rfl rfl ?_
      refine r_iconst (n := 16) (v := 0) dX1_feed_15 ki_0 rfl ?_
      refine r_aload_n (n := 17) 0 dX1_feed_16 rfl rfl ?_
      refine r_getR (n := 20) cls_1 1 fi_1_1 (fire_o ha) gw_163 dX1_feed_17 rfl (fire_r1 ha) (fire_n1 ha) ?_
      refine r_iload_n (n := 21) 1 dX1_feed_20 rfl rfl ?_
      obtain ⟨hi1, H⟩ := H
      refine rs_iald (n := 22) (fire_a1 ha) hi1 dX1_feed_21 rfl ?_
      refine r_aload_n (n := 23) 0 dX1_feed_22 rfl rfl ?_
      refine r_getR (n := 26) cls_1 0 fi_1_0 (fire_o ha) gw_162 dX1_feed_23 rfl (fire_r0 ha) (fire_n0 ha) ?_
      refine r_getRN (n := 29) (host := RX10) cls_2 0 fi_2_0 (lane_o (fire_lane ha)) (fun U h => h.2.1.2.1) dX1_feed_26 rfl (lane_r0 (fire_lane ha)) (lane_n0 (fire_lane ha)) ?_
      refine r_iload_n (n := 30) 1 dX1_feed_29 rfl rfl ?_
      obtain ⟨hi2, H⟩ := H
      refine rs_iald (n := 31) (lane_a0 (fire_lane ha)) hi2 dX1_feed_30 rfl ?_
      refine r_aload_n (n := 32) 0 dX1_feed_31 rfl rfl ?_
      refine rs_getI (n := 35) cls_1 4 fi_1_4 (fire_o ha) gw_169 dX1_feed_32 rfl ?_
      refine rs_cSi (n := 38) (rest := [.int _, .int _, .int _, .ref _]) (As := [.int _, .int _]) sm_X2_takes gw_622 dX1_feed_35 rfl rfl (Nat.le_of_ble_eq_true rfl) rfl (CI.mono H (fun r3 I4 X5 H => ?_))
      refine r_isub (n := 39) dX1_feed_38 rfl ?_
      refine r_mmax (n := 42) dX1_feed_39 ⟨gw_674, gw_675, gw_77, gw_676⟩ (Nat.le_of_ble_eq_true rfl) rfl ?_
      obtain ⟨hi6, H⟩ := H
      have H := H _ rfl
      refine rs_iast (n := 43) (fire_a1 ha) hi6 dX1_feed_42 rfl ?_
      refine r_aload_n (n := 44) 0 dX1_feed_43 rfl rfl ?_
      refine r_getR (n := 47) cls_1 1 fi_1_1 (fire_o ha) gw_163 dX1_feed_44 rfl (fire_r1 ha) (fire_n1 ha) ?_
      refine r_iload_n (n := 48) 1 dX1_feed_47 rfl rfl ?_
      obtain ⟨hi8, H⟩ := H
      refine rs_iald (n := 49) (fire_a1 ha) hi8 dX1_feed_48 rfl ?_
      refine r_if_ne (n := 52) (tgt := 66) dX1_feed_49 (by decide) rfl (fun c => ?_) (fun c => ?_)
      · have H := H.1 c
        exact rs_vret dX1_feed_66 rfl H
      · have H := H.2 c
        refine r_aload_n (n := 53) 0 dX1_feed_52 rfl rfl ?_
        refine r_dup (n := 54) dX1_feed_53 rfl rfl ?_
        refine rs_getI (n := 57) cls_1 3 fi_1_3 (fire_o ha) gw_165 dX1_feed_54 rfl ?_
        refine r_iconst (n := 58) (v := 1) dX1_feed_57 ki_1 rfl ?_
        refine r_iload_n (n := 59) 1 dX1_feed_58 rfl rfl ?_
        refine r_ishl (n := 60) dX1_feed_59 rfl ?_
        refine r_iconst (n := 61) (v := (-1)) dX1_feed_60 ki_m1 rfl ?_
        refine r_ixor (n := 62) dX1_feed_61 rfl ?_
        refine r_iand (n := 63) dX1_feed_62 rfl ?_
        have H := H _ rfl
        refine rs_putI (n := 66) cls_1 3 fp_1_3 (fire_o ha) gw_165 dX1_feed_63 rfl ?_
        exact rs_vret dX1_feed_66 rfl H
    · have H := H.2 c
      exact rs_vret dX1_feed_9 rfl H
set_option maxRecDepth 20000 in
theorem en_X1_beside {g : OG} {d : Nat} {I : IT} {X : XT} {K : Int32 → IT → XT → Prop} {l0 : Int32} 
    (H : K (((1 <<< (l0 &&& 31)) >>> (1 &&& 31)) ||| (1 <<< ((l0 + 1) &&& 31))) I X) : CI g (d + 1) iX1_beside [.int l0] I X K := by
  refine ocall_of (by decide) (Nat.le_of_ble_eq_true rfl) ?_
  show SR g (d + 1) iX1_beside 0 [(0, .int l0)] I X (qI K)
  refine r_iconst (n := 1) (v := 1) dX1_beside_0 ki_1 rfl ?_
  refine r_iload_n (n := 2) 0 dX1_beside_1 rfl rfl ?_
  refine r_ishl (n := 3) dX1_beside_2 rfl ?_
  refine r_iconst (n := 4) (v := 1) dX1_beside_3 ki_1 rfl ?_
  refine r_ishr (n := 5) dX1_beside_4 rfl ?_
  refine r_iconst (n := 6) (v := 1) dX1_beside_5 ki_1 rfl ?_
  refine r_iload_n (n := 7) 0 dX1_beside_6 rfl rfl ?_
  refine r_iconst (n := 8) (v := 1) dX1_beside_7 ki_1 rfl ?_
  refine r_iadd (n := 9) dX1_beside_8 rfl ?_
  refine r_ishl (n := 10) dX1_beside_9 rfl ?_
  refine r_ior (n := 11) dX1_beside_10 rfl ?_
  exact rs_iret dX1_beside_11 rfl H
set_option maxRecDepth 20000 in
theorem en_X1_act {g : OG} {d : Nat} {I : IT} {X : XT} {K : IT → XT → Prop} {a : Nat} {l1 : Int32} (ha : a ∈ fireL)
    (H : (l1 < 40 →
        (¬ l1 = 36 →
          CV g d iX1_bring [rf g a, .int l1] I X (fun I1 X2 =>
            K I1 X2)) ∧
        (l1 = 36 →
          CV g d iX1_pass [rf g a] I X (fun I3 X4 =>
            K I3 X4))) ∧
      (¬ l1 < 40 →
        CV g d iX1_light [rf g a, .int (l1 - 40)] I X (fun I5 X6 =>
          K I5 X6))) : CV g (d + 1) iX1_act [rf g a, .int l1] I X K := by
  refine ocall_of (by decide) (Nat.le_of_ble_eq_true rfl) ?_
  show SR g (d + 1) iX1_act 0 [(0, rf g a), (1, .int l1)] I X (qV K)
  refine r_iload_n (n := 1) 1 dX1_act_0 rfl rfl ?_
  refine r_bipush (n := 3) (v := 40) dX1_act_1 kb_40 rfl ?_
  refine r_icmp_lt (n := 6) (tgt := 17) dX1_act_3 (by decide) rfl (fun c => ?_) (fun c => ?_)
  · have H := H.1 c
    refine r_iload_n (n := 18) 1 dX1_act_17 rfl rfl ?_
    refine r_bipush (n := 20) (v := 36) dX1_act_18 kb_36 rfl ?_
    refine r_icmp_ne (n := 23) (tgt := 30) dX1_act_20 (by decide) rfl (fun c => ?_) (fun c => ?_)
    · have H := H.1 c
      refine r_aload_n (n := 31) 0 dX1_act_30 rfl rfl ?_
      refine r_iload_n (n := 32) 1 dX1_act_31 rfl rfl ?_
      refine rs_cVv (n := 35) (rest := []) (As := [.int _]) vm_X1_bring gw_680 (fire_o ha) cq_1 dX1_act_32 rfl rfl (Nat.le_of_ble_eq_true rfl) rfl (CV.mono H (fun I1 X2 H => ?_))
      exact rs_vret dX1_act_35 rfl H
    · have H := H.2 c
      refine r_aload_n (n := 24) 0 dX1_act_23 rfl rfl ?_
      refine rs_cVv (n := 27) (rest := []) (As := []) vm_X1_pass gw_666 (fire_o ha) cq_1 dX1_act_24 rfl rfl (Nat.le_of_ble_eq_true rfl) rfl (CV.mono H (fun I3 X4 H => ?_))
      refine r_goto (n := 35) dX1_act_27 (by decide) ?_
      exact rs_vret dX1_act_35 rfl H
  · have H := H.2 c
    refine r_aload_n (n := 7) 0 dX1_act_6 rfl rfl ?_
    refine r_iload_n (n := 8) 1 dX1_act_7 rfl rfl ?_
    refine r_bipush (n := 10) (v := 40) dX1_act_8 kb_40 rfl ?_
    refine r_isub (n := 11) dX1_act_10 rfl ?_
    refine rs_cVv (n := 14) (rest := []) (As := [.int _]) vm_X1_light gw_662 (fire_o ha) cq_1 dX1_act_11 rfl rfl (Nat.le_of_ble_eq_true rfl) rfl (CV.mono H (fun I5 X6 H => ?_))
    refine r_goto (n := 35) dX1_act_14 (by decide) ?_
    exact rs_vret dX1_act_35 rfl H
set_option maxRecDepth 20000 in
theorem en_X1_wetBeside {g : OG} {d : Nat} {I : IT} {X : XT} {K : Int32 → IT → XT → Prop} {a : Nat} {l1 : Int32} (ha : a ∈ fireL)
    (H : CI g d iX1_wetOf [rf g a, .int (l1 - 1)] I X (fun r1 I2 X3 =>
        (r1 ≤ 0 →
          CI g d iX1_wetOf [rf g a, .int (l1 + 1)] I2 X3 (fun r4 I5 X6 =>
            (r4 ≤ 0 →
              K (0 + 0) I5 X6) ∧
            (¬ r4 ≤ 0 →
              K (0 + 1) I5 X6))) ∧
        (¬ r1 ≤ 0 →
          CI g d iX1_wetOf [rf g a, .int (l1 + 1)] I2 X3 (fun r7 I8 X9 =>
            (r7 ≤ 0 →
              K (1 + 0) I8 X9) ∧
            (¬ r7 ≤ 0 →
              K (1 + 1) I8 X9))))) : CI g (d + 1) iX1_wetBeside [rf g a, .int l1] I X K := by
  refine ocall_of (by decide) (Nat.le_of_ble_eq_true rfl) ?_
  show SR g (d + 1) iX1_wetBeside 0 [(0, rf g a), (1, .int l1)] I X (qI K)
  refine r_aload_n (n := 1) 0 dX1_wetBeside_0 rfl rfl ?_
  refine r_iload_n (n := 2) 1 dX1_wetBeside_1 rfl rfl ?_
  refine r_iconst (n := 3) (v := 1) dX1_wetBeside_2 ki_1 rfl ?_
  refine r_isub (n := 4) dX1_wetBeside_3 rfl ?_
  refine rs_cVi (n := 7) (rest := []) (As := [.int _]) vm_X1_wetOf gw_630 (fire_o ha) cq_1 dX1_wetBeside_4 rfl rfl (Nat.le_of_ble_eq_true rfl) rfl (CI.mono H (fun r1 I2 X3 H => ?_))
  refine r_if_le (n := 10) (tgt := 14) dX1_wetBeside_7 (by decide) rfl (fun c => ?_) (fun c => ?_)
  · have H := H.1 c
    refine r_iconst (n := 15) (v := 0) dX1_wetBeside_14 ki_0 rfl ?_
    refine r_aload_n (n := 16) 0 dX1_wetBeside_15 rfl rfl ?_
    refine r_iload_n (n := 17) 1 dX1_wetBeside_16 rfl rfl ?_
    refine r_iconst (n := 18) (v := 1) dX1_wetBeside_17 ki_1 rfl ?_
    refine r_iadd (n := 19) dX1_wetBeside_18 rfl ?_
    refine rs_cVi (n := 22) (rest := [.int _]) (As := [.int _]) vm_X1_wetOf gw_630 (fire_o ha) cq_1 dX1_wetBeside_19 rfl rfl (Nat.le_of_ble_eq_true rfl) rfl (CI.mono H (fun r4 I5 X6 H => ?_))
    refine r_if_le (n := 25) (tgt := 29) dX1_wetBeside_22 (by decide) rfl (fun c => ?_) (fun c => ?_)
    · have H := H.1 c
      refine r_iconst (n := 30) (v := 0) dX1_wetBeside_29 ki_0 rfl ?_
      refine r_iadd (n := 31) dX1_wetBeside_30 rfl ?_
      exact rs_iret dX1_wetBeside_31 rfl H
    · have H := H.2 c
      refine r_iconst (n := 26) (v := 1) dX1_wetBeside_25 ki_1 rfl ?_
      refine r_goto (n := 30) dX1_wetBeside_26 (by decide) ?_
      refine r_iadd (n := 31) dX1_wetBeside_30 rfl ?_
      exact rs_iret dX1_wetBeside_31 rfl H
  · have H := H.2 c
    refine r_iconst (n := 11) (v := 1) dX1_wetBeside_10 ki_1 rfl ?_
    refine r_goto (n := 15) dX1_wetBeside_11 (by decide) ?_
    refine r_aload_n (n := 16) 0 dX1_wetBeside_15 rfl rfl ?_
    refine r_iload_n (n := 17) 1 dX1_wetBeside_16 rfl rfl ?_
    refine r_iconst (n := 18) (v := 1) dX1_wetBeside_17 ki_1 rfl ?_
    refine r_iadd (n := 19) dX1_wetBeside_18 rfl ?_
    refine rs_cVi (n := 22) (rest := [.int _]) (As := [.int _]) vm_X1_wetOf gw_630 (fire_o ha) cq_1 dX1_wetBeside_19 rfl rfl (Nat.le_of_ble_eq_true rfl) rfl (CI.mono H (fun r7 I8 X9 H => ?_))
    refine r_if_le (n := 25) (tgt := 29) dX1_wetBeside_22 (by decide) rfl (fun c => ?_) (fun c => ?_)
    · have H := H.1 c
      refine r_iconst (n := 30) (v := 0) dX1_wetBeside_29 ki_0 rfl ?_
      refine r_iadd (n := 31) dX1_wetBeside_30 rfl ?_
      exact rs_iret dX1_wetBeside_31 rfl H
    · have H := H.2 c
      refine r_iconst (n := 26) (v := 1) dX1_wetBeside_25 ki_1 rfl ?_
      refine r_goto (n := 30) dX1_wetBeside_26 (by decide) ?_
      refine r_iadd (n := 31) dX1_wetBeside_30 rfl ?_
      exact rs_iret dX1_wetBeside_31 rfl H
set_option maxRecDepth 20000 in
theorem en_X1_woodFor {g : OG} {d : Nat} {I : IT} {X : XT} {K : Int32 → IT → XT → Prop} {a : Nat} {l1 : Int32} {l2 : Int32} (ha : a ∈ fireL)
    (H : SR g (d + 1) iX1_woodFor 5 [(0, rf g a), (1, .int l1), (2, .int l2), (3, .int 0), (4, .int 0)] I X (qI K)) : CI g (d + 1) iX1_woodFor [rf g a, .int l1, .int l2] I X K := by
  refine ocall_of (by decide) (Nat.le_of_ble_eq_true rfl) ?_
  show SR g (d + 1) iX1_woodFor 0 [(0, rf g a), (1, .int l1), (2, .int l2)] I X (qI K)
  refine r_iconst (n := 1) (v := 0) dX1_woodFor_0 ki_0 rfl ?_
  refine r_istore_n (n := 2) (lv' := [(3, .int _), (0, .ref _), (1, .int _), (2, .int _)]) dX1_woodFor_1 rfl (by decide) rfl rfl ?_
  refine r_iconst (n := 3) (v := 0) dX1_woodFor_2 ki_0 rfl ?_
  refine r_istore (n := 5) (lv' := [(4, .int _), (3, .int _), (0, .ref _), (1, .int _), (2, .int _)]) dX1_woodFor_3 (by decide) rfl rfl ?_
  exact r_sub [2, 3, 4, 1, 0] rfl H
set_option maxRecDepth 20000 in
theorem rg_X1_woodFor_5 {g : OG} {d : Nat} {I : IT} {X : XT} {K : Int32 → IT → XT → Prop} {a : Nat} {l1 : Int32} {l2 : Int32} {l3 : Int32} {l4 : Int32} (ha : a ∈ fireL)
    (H : (l2 ≤ l4 →
        K l3 I X) ∧
      (¬ l2 ≤ l4 →
        CI g d iX3_kindOf [rf g (laneOf a), .int l1] I X (fun r1 I2 X3 =>
          CI g d iX2_takes [.int r1, .int ((I2 a 4) + l4)] I2 X3 (fun r4 I5 X6 =>
            ∀ x7 : Int32, x7 = l3 + r4 →
            ∀ x8 : Int32, x8 = l4 + 1 →
            SR g (d + 1) iX1_woodFor 5 [(0, rf g a), (1, .int l1), (2, .int l2), (3, .int x7), (4, .int x8)] I5 X6 (qI K))))) : SR g (d + 1) iX1_woodFor 5 [(0, rf g a), (1, .int l1), (2, .int l2), (3, .int l3), (4, .int l4)] I X (qI K) := by
  refine r_iload (n := 7) 4 dX1_woodFor_5 rfl rfl ?_
  refine r_iload_n (n := 8) 2 dX1_woodFor_7 rfl rfl ?_
  refine r_icmp_ge (n := 11) (tgt := 38) dX1_woodFor_8 (by decide) rfl (fun c => ?_) (fun c => ?_)
  · have H := H.1 c
    refine r_iload_n (n := 39) 3 dX1_woodFor_38 rfl rfl ?_
    exact rs_iret dX1_woodFor_39 rfl H
  · have H := H.2 c
    refine r_iload_n (n := 12) 3 dX1_woodFor_11 rfl rfl ?_
    refine r_aload_n (n := 13) 0 dX1_woodFor_12 rfl rfl ?_
    refine r_getR (n := 16) cls_1 0 fi_1_0 (fire_o ha) gw_162 dX1_woodFor_13 rfl (fire_r0 ha) (fire_n0 ha) ?_
    refine r_iload_n (n := 17) 1 dX1_woodFor_16 rfl rfl ?_
    refine rs_cVi (n := 20) (rest := [.int _]) (As := [.int _]) vm_X3_kindOf gw_621 (lane_o (fire_lane ha)) cq_2 dX1_woodFor_17 rfl rfl (Nat.le_of_ble_eq_true rfl) rfl (CI.mono H (fun r1 I2 X3 H => ?_))
    refine r_aload_n (n := 21) 0 dX1_woodFor_20 rfl rfl ?_
    refine rs_getI (n := 24) cls_1 4 fi_1_4 (fire_o ha) gw_169 dX1_woodFor_21 rfl ?_
    refine r_iload (n := 26) 4 dX1_woodFor_24 rfl rfl ?_
    refine r_iadd (n := 27) dX1_woodFor_26 rfl ?_
    refine rs_cSi (n := 30) (rest := [.int _]) (As := [.int _, .int _]) sm_X2_takes gw_622 dX1_woodFor_27 rfl rfl (Nat.le_of_ble_eq_true rfl) rfl (CI.mono H (fun r4 I5 X6 H => ?_))
    refine r_iadd (n := 31) dX1_woodFor_30 rfl ?_
    have H := H _ rfl
    refine r_istore_n (n := 32) (lv' := [(3, .int _), (0, .ref _), (1, .int _), (2, .int _), (4, .int _)]) dX1_woodFor_31 rfl (by decide) rfl rfl ?_
    have H := H _ rfl
    refine r_iinc (n := 35) (lv' := [(4, .int _), (3, .int _), (0, .ref _), (1, .int _), (2, .int _)]) 4 dX1_woodFor_32 rfl rfl (by decide) rfl rfl ?_
    refine r_goto (n := 5) dX1_woodFor_35 (by decide) ?_
    exact r_sub [2, 3, 4, 1, 0] rfl H
set_option maxRecDepth 20000 in
theorem en_X1_woodLasts {g : OG} {d : Nat} {I : IT} {X : XT} {K : Int32 → IT → XT → Prop} {a : Nat} {l1 : Int32} (ha : a ∈ fireL)
    (H : CI g d iX1_woodOf [rf g a, .int l1] I X (fun r1 I2 X3 =>
        SR g (d + 1) iX1_woodLasts 8 [(0, rf g a), (1, .int l1), (2, .int r1), (3, .int 0)] I2 X3 (qI K))) : CI g (d + 1) iX1_woodLasts [rf g a, .int l1] I X K := by
  refine ocall_of (by decide) (Nat.le_of_ble_eq_true rfl) ?_
  show SR g (d + 1) iX1_woodLasts 0 [(0, rf g a), (1, .int l1)] I X (qI K)
  refine r_aload_n (n := 1) 0 dX1_woodLasts_0 rfl rfl ?_
  refine r_iload_n (n := 2) 1 dX1_woodLasts_1 rfl rfl ?_
  refine rs_cVi (n := 5) (rest := []) (As := [.int _]) vm_X1_woodOf gw_768 (fire_o ha) cq_1 dX1_woodLasts_2 rfl rfl (Nat.le_of_ble_eq_true rfl) rfl (CI.mono H (fun r1 I2 X3 H => ?_))
  refine r_istore_n (n := 6) (lv' := [(2, .int _), (0, .ref _), (1, .int _)]) dX1_woodLasts_5 rfl (by decide) rfl rfl ?_
  refine r_iconst (n := 7) (v := 0) dX1_woodLasts_6 ki_0 rfl ?_
  refine r_istore_n (n := 8) (lv' := [(3, .int _), (2, .int _), (0, .ref _), (1, .int _)]) dX1_woodLasts_7 rfl (by decide) rfl rfl ?_
  exact r_sub [2, 3, 1, 0] rfl H
set_option maxRecDepth 20000 in
theorem rg_X1_woodLasts_8 {g : OG} {d : Nat} {I : IT} {X : XT} {K : Int32 → IT → XT → Prop} {a : Nat} {l1 : Int32} {l2 : Int32} {l3 : Int32} (ha : a ∈ fireL)
    (H : (l2 ≤ 0 →
        K l3 I X) ∧
      (¬ l2 ≤ 0 →
        (64 ≤ l3 →
          K l3 I X) ∧
        (¬ 64 ≤ l3 →
          CI g d iX3_kindOf [rf g (laneOf a), .int l1] I X (fun r1 I2 X3 =>
            CI g d iX2_takes [.int r1, .int ((I2 a 4) + l3)] I2 X3 (fun r4 I5 X6 =>
              ∀ x7 : Int32, x7 = l2 - r4 →
              ∀ x8 : Int32, x8 = l3 + 1 →
              SR g (d + 1) iX1_woodLasts 8 [(0, rf g a), (1, .int l1), (2, .int x7), (3, .int x8)] I5 X6 (qI K)))))) : SR g (d + 1) iX1_woodLasts 8 [(0, rf g a), (1, .int l1), (2, .int l2), (3, .int l3)] I X (qI K) := by
  refine r_iload_n (n := 9) 2 dX1_woodLasts_8 rfl rfl ?_
  refine r_if_le (n := 12) (tgt := 44) dX1_woodLasts_9 (by decide) rfl (fun c => ?_) (fun c => ?_)
  · have H := H.1 c
    refine r_iload_n (n := 45) 3 dX1_woodLasts_44 rfl rfl ?_
    exact rs_iret dX1_woodLasts_45 rfl H
  · have H := H.2 c
    refine r_iload_n (n := 13) 3 dX1_woodLasts_12 rfl rfl ?_
    refine r_bipush (n := 15) (v := 64) dX1_woodLasts_13 kb_64 rfl ?_
    refine r_icmp_ge (n := 18) (tgt := 44) dX1_woodLasts_15 (by decide) rfl (fun c => ?_) (fun c => ?_)
    · have H := H.1 c
      refine r_iload_n (n := 45) 3 dX1_woodLasts_44 rfl rfl ?_
      exact rs_iret dX1_woodLasts_45 rfl H
    · have H := H.2 c
      refine r_iload_n (n := 19) 2 dX1_woodLasts_18 rfl rfl ?_
      refine r_aload_n (n := 20) 0 dX1_woodLasts_19 rfl rfl ?_
      refine r_getR (n := 23) cls_1 0 fi_1_0 (fire_o ha) gw_162 dX1_woodLasts_20 rfl (fire_r0 ha) (fire_n0 ha) ?_
      refine r_iload_n (n := 24) 1 dX1_woodLasts_23 rfl rfl ?_
      refine rs_cVi (n := 27) (rest := [.int _]) (As := [.int _]) vm_X3_kindOf gw_621 (lane_o (fire_lane ha)) cq_2 dX1_woodLasts_24 rfl rfl (Nat.le_of_ble_eq_true rfl) rfl (CI.mono H (fun r1 I2 X3 H => ?_))
      refine r_aload_n (n := 28) 0 dX1_woodLasts_27 rfl rfl ?_
      refine rs_getI (n := 31) cls_1 4 fi_1_4 (fire_o ha) gw_169 dX1_woodLasts_28 rfl ?_
      refine r_iload_n (n := 32) 3 dX1_woodLasts_31 rfl rfl ?_
      refine r_iadd (n := 33) dX1_woodLasts_32 rfl ?_
      refine rs_cSi (n := 36) (rest := [.int _]) (As := [.int _, .int _]) sm_X2_takes gw_622 dX1_woodLasts_33 rfl rfl (Nat.le_of_ble_eq_true rfl) rfl (CI.mono H (fun r4 I5 X6 H => ?_))
      refine r_isub (n := 37) dX1_woodLasts_36 rfl ?_
      have H := H _ rfl
      refine r_istore_n (n := 38) (lv' := [(2, .int _), (0, .ref _), (1, .int _), (3, .int _)]) dX1_woodLasts_37 rfl (by decide) rfl rfl ?_
      have H := H _ rfl
      refine r_iinc (n := 41) (lv' := [(3, .int _), (2, .int _), (0, .ref _), (1, .int _)]) 3 dX1_woodLasts_38 rfl rfl (by decide) rfl rfl ?_
      refine r_goto (n := 8) dX1_woodLasts_41 (by decide) ?_
      exact r_sub [2, 3, 1, 0] rfl H
set_option maxRecDepth 20000 in
theorem en_X1_burnsOn {g : OG} {d : Nat} {I : IT} {X : XT} {K : Int32 → IT → XT → Prop} {a : Nat} {l1 : Int32} (ha : a ∈ fireL)
    (H : CI g d iX1_burns [rf g a, .int l1] I X (fun r1 I2 X3 =>
        (r1 = 0 →
          K 0 I2 X3) ∧
        (¬ r1 = 0 →
          CI g d iX1_woodLasts [rf g a, .int l1] I2 X3 (fun r4 I5 X6 =>
            K r4 I5 X6)))) : CI g (d + 1) iX1_burnsOn [rf g a, .int l1] I X K := by
  refine ocall_of (by decide) (Nat.le_of_ble_eq_true rfl) ?_
  show SR g (d + 1) iX1_burnsOn 0 [(0, rf g a), (1, .int l1)] I X (qI K)
  refine r_aload_n (n := 1) 0 dX1_burnsOn_0 rfl rfl ?_
  refine r_iload_n (n := 2) 1 dX1_burnsOn_1 rfl rfl ?_
  refine rs_cVi (n := 5) (rest := []) (As := [.int _]) vm_X1_burns gw_692 (fire_o ha) cq_1 dX1_burnsOn_2 rfl rfl (Nat.le_of_ble_eq_true rfl) rfl (CI.mono H (fun r1 I2 X3 H => ?_))
  refine r_if_eq (n := 8) (tgt := 16) dX1_burnsOn_5 (by decide) rfl (fun c => ?_) (fun c => ?_)
  · have H := H.1 c
    refine r_iconst (n := 17) (v := 0) dX1_burnsOn_16 ki_0 rfl ?_
    exact rs_iret dX1_burnsOn_17 rfl H
  · have H := H.2 c
    refine r_aload_n (n := 9) 0 dX1_burnsOn_8 rfl rfl ?_
    refine r_iload_n (n := 10) 1 dX1_burnsOn_9 rfl rfl ?_
    refine rs_cVi (n := 13) (rest := []) (As := [.int _]) vm_X1_woodLasts gw_764 (fire_o ha) cq_1 dX1_burnsOn_10 rfl rfl (Nat.le_of_ble_eq_true rfl) rfl (CI.mono H (fun r4 I5 X6 H => ?_))
    refine r_goto (n := 17) dX1_burnsOn_13 (by decide) ?_
    exact rs_iret dX1_burnsOn_17 rfl H
set_option maxRecDepth 20000 in
theorem en_X1_alightAfter {g : OG} {d : Nat} {I : IT} {X : XT} {K : Int32 → IT → XT → Prop} {a : Nat} {l1 : Int32} (ha : a ∈ fireL)
    (H : SR g (d + 1) iX1_alightAfter 4 [(0, rf g a), (1, .int l1), (2, .int 0), (3, .int 0)] I X (qI K)) : CI g (d + 1) iX1_alightAfter [rf g a, .int l1] I X K := by
  refine ocall_of (by decide) (Nat.le_of_ble_eq_true rfl) ?_
  show SR g (d + 1) iX1_alightAfter 0 [(0, rf g a), (1, .int l1)] I X (qI K)
  refine r_iconst (n := 1) (v := 0) dX1_alightAfter_0 ki_0 rfl ?_
  refine r_istore_n (n := 2) (lv' := [(2, .int _), (0, .ref _), (1, .int _)]) dX1_alightAfter_1 rfl (by decide) rfl rfl ?_
  refine r_iconst (n := 3) (v := 0) dX1_alightAfter_2 ki_0 rfl ?_
  refine r_istore_n (n := 4) (lv' := [(3, .int _), (2, .int _), (0, .ref _), (1, .int _)]) dX1_alightAfter_3 rfl (by decide) rfl rfl ?_
  exact r_sub [2, 3, 1, 0] rfl H
set_option maxRecDepth 20000 in
theorem rg_X1_alightAfter_4 {g : OG} {d : Nat} {I : IT} {X : XT} {K : Int32 → IT → XT → Prop} {a : Nat} {l1 : Int32} {l2 : Int32} {l3 : Int32} (ha : a ∈ fireL)
    (H : ((I (laneOf a) 4) ≤ l3 →
        K l2 I X) ∧
      (¬ (I (laneOf a) 4) ≤ l3 →
        CI g d iX1_burnsOn [rf g a, .int l3] I X (fun r1 I2 X3 =>
          (r1 ≤ l1 →
            ∀ x4 : Int32, x4 = l2 + 0 →
            ∀ x5 : Int32, x5 = l3 + 1 →
            SR g (d + 1) iX1_alightAfter 4 [(0, rf g a), (1, .int l1), (2, .int x4), (3, .int x5)] I2 X3 (qI K)) ∧
          (¬ r1 ≤ l1 →
            ∀ x6 : Int32, x6 = l2 + 1 →
            ∀ x7 : Int32, x7 = l3 + 1 →
            SR g (d + 1) iX1_alightAfter 4 [(0, rf g a), (1, .int l1), (2, .int x6), (3, .int x7)] I2 X3 (qI K))))) : SR g (d + 1) iX1_alightAfter 4 [(0, rf g a), (1, .int l1), (2, .int l2), (3, .int l3)] I X (qI K) := by
  refine r_iload_n (n := 5) 3 dX1_alightAfter_4 rfl rfl ?_
  refine r_aload_n (n := 6) 0 dX1_alightAfter_5 rfl rfl ?_
  refine r_getR (n := 9) cls_1 0 fi_1_0 (fire_o ha) gw_162 dX1_alightAfter_6 rfl (fire_r0 ha) (fire_n0 ha) ?_
  refine rs_getI (n := 12) cls_2 4 fi_2_4 (lane_o (fire_lane ha)) gw_137 dX1_alightAfter_9 rfl ?_
  refine r_icmp_ge (n := 15) (tgt := 38) dX1_alightAfter_12 (by decide) rfl (fun c => ?_) (fun c => ?_)
  · have H := H.1 c
    refine r_iload_n (n := 39) 2 dX1_alightAfter_38 rfl rfl ?_
    exact rs_iret dX1_alightAfter_39 rfl H
  · have H := H.2 c
    refine r_iload_n (n := 16) 2 dX1_alightAfter_15 rfl rfl ?_
    refine r_aload_n (n := 17) 0 dX1_alightAfter_16 rfl rfl ?_
    refine r_iload_n (n := 18) 3 dX1_alightAfter_17 rfl rfl ?_
    refine rs_cVi (n := 21) (rest := [.int _]) (As := [.int _]) vm_X1_burnsOn gw_782 (fire_o ha) cq_1 dX1_alightAfter_18 rfl rfl (Nat.le_of_ble_eq_true rfl) rfl (CI.mono H (fun r1 I2 X3 H => ?_))
    refine r_iload_n (n := 22) 1 dX1_alightAfter_21 rfl rfl ?_
    refine r_icmp_le (n := 25) (tgt := 29) dX1_alightAfter_22 (by decide) rfl (fun c => ?_) (fun c => ?_)
    · have H := H.1 c
      refine r_iconst (n := 30) (v := 0) dX1_alightAfter_29 ki_0 rfl ?_
      refine r_iadd (n := 31) dX1_alightAfter_30 rfl ?_
      have H := H _ rfl
      refine r_istore_n (n := 32) (lv' := [(2, .int _), (0, .ref _), (1, .int _), (3, .int _)]) dX1_alightAfter_31 rfl (by decide) rfl rfl ?_
      have H := H _ rfl
      refine r_iinc (n := 35) (lv' := [(3, .int _), (2, .int _), (0, .ref _), (1, .int _)]) 3 dX1_alightAfter_32 rfl rfl (by decide) rfl rfl ?_
      refine r_goto (n := 4) dX1_alightAfter_35 (by decide) ?_
      exact r_sub [2, 3, 1, 0] rfl H
    · have H := H.2 c
      refine r_iconst (n := 26) (v := 1) dX1_alightAfter_25 ki_1 rfl ?_
      refine r_goto (n := 30) dX1_alightAfter_26 (by decide) ?_
      refine r_iadd (n := 31) dX1_alightAfter_30 rfl ?_
      have H := H _ rfl
      refine r_istore_n (n := 32) (lv' := [(2, .int _), (0, .ref _), (1, .int _), (3, .int _)]) dX1_alightAfter_31 rfl (by decide) rfl rfl ?_
      have H := H _ rfl
      refine r_iinc (n := 35) (lv' := [(3, .int _), (2, .int _), (0, .ref _), (1, .int _)]) 3 dX1_alightAfter_32 rfl rfl (by decide) rfl rfl ?_
      refine r_goto (n := 4) dX1_alightAfter_35 (by decide) ?_
      exact r_sub [2, 3, 1, 0] rfl H
set_option maxRecDepth 20000 in
theorem en_X1_servesHour {g : OG} {d : Nat} {I : IT} {X : XT} {K : Int32 → IT → XT → Prop} {a : Nat} (ha : a ∈ fireL)
    (H : SR g (d + 1) iX1_servesHour 2 [(0, rf g a), (1, .int 0)] I X (qI K)) : CI g (d + 1) iX1_servesHour [rf g a] I X K := by
  refine ocall_of (by decide) (Nat.le_of_ble_eq_true rfl) ?_
  show SR g (d + 1) iX1_servesHour 0 [(0, rf g a)] I X (qI K)
  refine r_iconst (n := 1) (v := 0) dX1_servesHour_0 ki_0 rfl ?_
  refine r_istore_n (n := 2) (lv' := [(1, .int _), (0, .ref _)]) dX1_servesHour_1 rfl (by decide) rfl rfl ?_
  exact r_sub [1, 0] rfl H
set_option maxRecDepth 20000 in
theorem rg_X1_servesHour_2 {g : OG} {d : Nat} {I : IT} {X : XT} {K : Int32 → IT → XT → Prop} {a : Nat} {l1 : Int32} (ha : a ∈ fireL)
    (H : ((I (laneOf a) 4) ≤ l1 →
        K 1 I X) ∧
      (¬ (I (laneOf a) 4) ≤ l1 →
        vp_in l1 5 ∧
        (¬ (I (laneOf a + 2) l1.toNatClampNeg) = (I a 4) →
          ∀ x2 : Int32, x2 = l1 + 1 →
          SR g (d + 1) iX1_servesHour 2 [(0, rf g a), (1, .int x2)] I X (qI K)) ∧
        ((I (laneOf a + 2) l1.toNatClampNeg) = (I a 4) →
          (¬ (((I a 3) >>> (l1 &&& 31)) &&& 1) = 0 →
            ∀ x3 : Int32, x3 = l1 + 1 →
            SR g (d + 1) iX1_servesHour 2 [(0, rf g a), (1, .int x3)] I X (qI K)) ∧
          ((((I a 3) >>> (l1 &&& 31)) &&& 1) = 0 →
            K 0 I X)))) : SR g (d + 1) iX1_servesHour 2 [(0, rf g a), (1, .int l1)] I X (qI K) := by
  refine r_iload_n (n := 3) 1 dX1_servesHour_2 rfl rfl ?_
  refine r_aload_n (n := 4) 0 dX1_servesHour_3 rfl rfl ?_
  refine r_getR (n := 7) cls_1 0 fi_1_0 (fire_o ha) gw_162 dX1_servesHour_4 rfl (fire_r0 ha) (fire_n0 ha) ?_
  refine rs_getI (n := 10) cls_2 4 fi_2_4 (lane_o (fire_lane ha)) gw_137 dX1_servesHour_7 rfl ?_
  refine r_icmp_ge (n := 13) (tgt := 48) dX1_servesHour_10 (by decide) rfl (fun c => ?_) (fun c => ?_)
  · have H := H.1 c
    refine r_iconst (n := 49) (v := 1) dX1_servesHour_48 ki_1 rfl ?_
    exact rs_zret dX1_servesHour_49 rfl (by decide) H
  · have H := H.2 c
    refine r_aload_n (n := 14) 0 dX1_servesHour_13 rfl rfl ?_
    refine r_getR (n := 17) cls_1 0 fi_1_0 (fire_o ha) gw_162 dX1_servesHour_14 rfl (fire_r0 ha) (fire_n0 ha) ?_
    refine r_getRN (n := 20) (host := RX10) cls_2 1 fi_2_1 (lane_o (fire_lane ha)) (fun U h => h.2.1.2.2) dX1_servesHour_17 rfl (lane_r1 (fire_lane ha)) (lane_n1 (fire_lane ha)) ?_
    refine r_iload_n (n := 21) 1 dX1_servesHour_20 rfl rfl ?_
    obtain ⟨hi1, H⟩ := H
    refine rs_iald (n := 22) (lane_a1 (fire_lane ha)) hi1 dX1_servesHour_21 rfl ?_
    refine r_aload_n (n := 23) 0 dX1_servesHour_22 rfl rfl ?_
    refine rs_getI (n := 26) cls_1 4 fi_1_4 (fire_o ha) gw_169 dX1_servesHour_23 rfl ?_
    refine r_icmp_ne (n := 29) (tgt := 42) dX1_servesHour_26 (by decide) rfl (fun c => ?_) (fun c => ?_)
    · have H := H.1 c
      have H := H _ rfl
      refine r_iinc (n := 45) (lv' := [(1, .int _), (0, .ref _)]) 1 dX1_servesHour_42 rfl rfl (by decide) rfl rfl ?_
      refine r_goto (n := 2) dX1_servesHour_45 (by decide) ?_
      exact r_sub [1, 0] rfl H
    · have H := H.2 c
      refine r_aload_n (n := 30) 0 dX1_servesHour_29 rfl rfl ?_
      refine rs_getI (n := 33) cls_1 3 fi_1_3 (fire_o ha) gw_165 dX1_servesHour_30 rfl ?_
      refine r_iload_n (n := 34) 1 dX1_servesHour_33 rfl rfl ?_
      refine r_ishr (n := 35) dX1_servesHour_34 rfl ?_
      refine r_iconst (n := 36) (v := 1) dX1_servesHour_35 ki_1 rfl ?_
      refine r_iand (n := 37) dX1_servesHour_36 rfl ?_
      refine r_if_ne (n := 40) (tgt := 42) dX1_servesHour_37 (by decide) rfl (fun c => ?_) (fun c => ?_)
      · have H := H.1 c
        have H := H _ rfl
        refine r_iinc (n := 45) (lv' := [(1, .int _), (0, .ref _)]) 1 dX1_servesHour_42 rfl rfl (by decide) rfl rfl ?_
        refine r_goto (n := 2) dX1_servesHour_45 (by decide) ?_
        exact r_sub [1, 0] rfl H
      · have H := H.2 c
        refine r_iconst (n := 41) (v := 0) dX1_servesHour_40 ki_0 rfl ?_
        exact rs_zret dX1_servesHour_41 rfl (by decide) H
set_option maxRecDepth 20000 in
theorem en_X2_byLetter {g : OG} {d : Nat} {I : IT} {X : XT} {K : Int32 → IT → XT → Prop} {l0 : Int32} 
    (H : (l0 = 100 →
        K 3 I X) ∧
      (¬ l0 = 100 →
        (l0 = 101 →
        K ((-9)) I X) ∧
      (¬ l0 = 101 →
        (l0 = 102 →
        K ((-9)) I X) ∧
      (¬ l0 = 102 →
        (l0 = 103 →
        K ((-9)) I X) ∧
      (¬ l0 = 103 →
        (l0 = 104 →
        K 0 I X) ∧
      (¬ l0 = 104 →
        (l0 = 105 →
        K 5 I X) ∧
      (¬ l0 = 105 →
        (l0 = 106 →
        K ((-9)) I X) ∧
      (¬ l0 = 106 →
        (l0 = 107 →
        K ((-9)) I X) ∧
      (¬ l0 = 107 →
        (l0 = 108 →
        K ((-9)) I X) ∧
      (¬ l0 = 108 →
        (l0 = 109 →
        K ((-9)) I X) ∧
      (¬ l0 = 109 →
        (l0 = 110 →
        K ((-9)) I X) ∧
      (¬ l0 = 110 →
        (l0 = 111 →
        K ((-9)) I X) ∧
      (¬ l0 = 111 →
        (l0 = 112 →
        K 1 I X) ∧
      (¬ l0 = 112 →
        (l0 = 113 →
        K ((-9)) I X) ∧
      (¬ l0 = 113 →
        (l0 = 114 →
        K ((-9)) I X) ∧
      (¬ l0 = 114 →
        (l0 = 115 →
        K 2 I X) ∧
      (¬ l0 = 115 →
        (l0 = 116 →
        K 4 I X) ∧
      (¬ l0 = 116 →
        K ((-9)) I X)))))))))))))))))) : CI g (d + 1) iX2_byLetter [.int l0] I X K := by
  refine ocall_of (by decide) (Nat.le_of_ble_eq_true rfl) ?_
  show SR g (d + 1) iX2_byLetter 0 [(0, .int l0)] I X (qI K)
  refine r_iload_n (n := 1) 0 dX2_byLetter_0 rfl rfl ?_
  refine sw_split H (fun cs1 H => ?_) (fun cs1 H => ?_)
  · refine r_tcase (n := 90) (v := 100) (off := 89) dX2_byLetter_1 cs1 (by decide) (by decide) (by decide) ?_
    refine r_iconst (n := 91) (v := 3) dX2_byLetter_90 ki_3 rfl ?_
    exact rs_iret dX2_byLetter_91 rfl H
  · skip
    refine sw_split H (fun cs2 H => ?_) (fun cs2 H => ?_)
    · refine r_tcase (n := 96) (v := 101) (off := 95) dX2_byLetter_1 cs2 (by decide) (by decide) (by decide) ?_
      refine r_bipush (n := 98) (v := (-9)) dX2_byLetter_96 kb_m9 rfl ?_
      exact rs_iret dX2_byLetter_98 rfl H
    · skip
      refine sw_split H (fun cs3 H => ?_) (fun cs3 H => ?_)
      · refine r_tcase (n := 96) (v := 102) (off := 95) dX2_byLetter_1 cs3 (by decide) (by decide) (by decide) ?_
        refine r_bipush (n := 98) (v := (-9)) dX2_byLetter_96 kb_m9 rfl ?_
        exact rs_iret dX2_byLetter_98 rfl H
      · skip
        refine sw_split H (fun cs4 H => ?_) (fun cs4 H => ?_)
        · refine r_tcase (n := 96) (v := 103) (off := 95) dX2_byLetter_1 cs4 (by decide) (by decide) (by decide) ?_
          refine r_bipush (n := 98) (v := (-9)) dX2_byLetter_96 kb_m9 rfl ?_
          exact rs_iret dX2_byLetter_98 rfl H
        · skip
          refine sw_split H (fun cs5 H => ?_) (fun cs5 H => ?_)
          · refine r_tcase (n := 84) (v := 104) (off := 83) dX2_byLetter_1 cs5 (by decide) (by decide) (by decide) ?_
            refine r_iconst (n := 85) (v := 0) dX2_byLetter_84 ki_0 rfl ?_
            exact rs_iret dX2_byLetter_85 rfl H
          · skip
            refine sw_split H (fun cs6 H => ?_) (fun cs6 H => ?_)
            · refine r_tcase (n := 94) (v := 105) (off := 93) dX2_byLetter_1 cs6 (by decide) (by decide) (by decide) ?_
              refine r_iconst (n := 95) (v := 5) dX2_byLetter_94 ki_5 rfl ?_
              exact rs_iret dX2_byLetter_95 rfl H
            · skip
              refine sw_split H (fun cs7 H => ?_) (fun cs7 H => ?_)
              · refine r_tcase (n := 96) (v := 106) (off := 95) dX2_byLetter_1 cs7 (by decide) (by decide) (by decide) ?_
                refine r_bipush (n := 98) (v := (-9)) dX2_byLetter_96 kb_m9 rfl ?_
                exact rs_iret dX2_byLetter_98 rfl H
              · skip
                refine sw_split H (fun cs8 H => ?_) (fun cs8 H => ?_)
                · refine r_tcase (n := 96) (v := 107) (off := 95) dX2_byLetter_1 cs8 (by decide) (by decide) (by decide) ?_
                  refine r_bipush (n := 98) (v := (-9)) dX2_byLetter_96 kb_m9 rfl ?_
                  exact rs_iret dX2_byLetter_98 rfl H
                · skip
                  refine sw_split H (fun cs9 H => ?_) (fun cs9 H => ?_)
                  · refine r_tcase (n := 96) (v := 108) (off := 95) dX2_byLetter_1 cs9 (by decide) (by decide) (by decide) ?_
                    refine r_bipush (n := 98) (v := (-9)) dX2_byLetter_96 kb_m9 rfl ?_
                    exact rs_iret dX2_byLetter_98 rfl H
                  · skip
                    refine sw_split H (fun cs10 H => ?_) (fun cs10 H => ?_)
                    · refine r_tcase (n := 96) (v := 109) (off := 95) dX2_byLetter_1 cs10 (by decide) (by decide) (by decide) ?_
                      refine r_bipush (n := 98) (v := (-9)) dX2_byLetter_96 kb_m9 rfl ?_
                      exact rs_iret dX2_byLetter_98 rfl H
                    · skip
                      refine sw_split H (fun cs11 H => ?_) (fun cs11 H => ?_)
                      · refine r_tcase (n := 96) (v := 110) (off := 95) dX2_byLetter_1 cs11 (by decide) (by decide) (by decide) ?_
                        refine r_bipush (n := 98) (v := (-9)) dX2_byLetter_96 kb_m9 rfl ?_
                        exact rs_iret dX2_byLetter_98 rfl H
                      · skip
                        refine sw_split H (fun cs12 H => ?_) (fun cs12 H => ?_)
                        · refine r_tcase (n := 96) (v := 111) (off := 95) dX2_byLetter_1 cs12 (by decide) (by decide) (by decide) ?_
                          refine r_bipush (n := 98) (v := (-9)) dX2_byLetter_96 kb_m9 rfl ?_
                          exact rs_iret dX2_byLetter_98 rfl H
                        · skip
                          refine sw_split H (fun cs13 H => ?_) (fun cs13 H => ?_)
                          · refine r_tcase (n := 86) (v := 112) (off := 85) dX2_byLetter_1 cs13 (by decide) (by decide) (by decide) ?_
                            refine r_iconst (n := 87) (v := 1) dX2_byLetter_86 ki_1 rfl ?_
                            exact rs_iret dX2_byLetter_87 rfl H
                          · skip
                            refine sw_split H (fun cs14 H => ?_) (fun cs14 H => ?_)
                            · refine r_tcase (n := 96) (v := 113) (off := 95) dX2_byLetter_1 cs14 (by decide) (by decide) (by decide) ?_
                              refine r_bipush (n := 98) (v := (-9)) dX2_byLetter_96 kb_m9 rfl ?_
                              exact rs_iret dX2_byLetter_98 rfl H
                            · skip
                              refine sw_split H (fun cs15 H => ?_) (fun cs15 H => ?_)
                              · refine r_tcase (n := 96) (v := 114) (off := 95) dX2_byLetter_1 cs15 (by decide) (by decide) (by decide) ?_
                                refine r_bipush (n := 98) (v := (-9)) dX2_byLetter_96 kb_m9 rfl ?_
                                exact rs_iret dX2_byLetter_98 rfl H
                              · skip
                                refine sw_split H (fun cs16 H => ?_) (fun cs16 H => ?_)
                                · refine r_tcase (n := 88) (v := 115) (off := 87) dX2_byLetter_1 cs16 (by decide) (by decide) (by decide) ?_
                                  refine r_iconst (n := 89) (v := 2) dX2_byLetter_88 ki_2 rfl ?_
                                  exact rs_iret dX2_byLetter_89 rfl H
                                · skip
                                  refine sw_split H (fun cs17 H => ?_) (fun cs17 H => ?_)
                                  · refine r_tcase (n := 92) (v := 116) (off := 91) dX2_byLetter_1 cs17 (by decide) (by decide) (by decide) ?_
                                    refine r_iconst (n := 93) (v := 4) dX2_byLetter_92 ki_4 rfl ?_
                                    exact rs_iret dX2_byLetter_93 rfl H
                                  · skip
                                    refine r_tout (n := 96) dX2_byLetter_1 (by have e0 := lv_neT cs1 (a := 100) (by decide); have e1 := lv_neT cs2 (a := 101) (by decide); have e2 := lv_neT cs3 (a := 102) (by decide); have e3 := lv_neT cs4 (a := 103) (by decide); have e4 := lv_neT cs5 (a := 104) (by decide); have e5 := lv_neT cs6 (a := 105) (by decide); have e6 := lv_neT cs7 (a := 106) (by decide); have e7 := lv_neT cs8 (a := 107) (by decide); have e8 := lv_neT cs9 (a := 108) (by decide); have e9 := lv_neT cs10 (a := 109) (by decide); have e10 := lv_neT cs11 (a := 110) (by decide); have e11 := lv_neT cs12 (a := 111) (by decide); have e12 := lv_neT cs13 (a := 112) (by decide); have e13 := lv_neT cs14 (a := 113) (by decide); have e14 := lv_neT cs15 (a := 114) (by decide); have e15 := lv_neT cs16 (a := 115) (by decide); have e16 := lv_neT cs17 (a := 116) (by decide); omega) (by decide) ?_
                                    refine r_bipush (n := 98) (v := (-9)) dX2_byLetter_96 kb_m9 rfl ?_
                                    exact rs_iret dX2_byLetter_98 rfl H
set_option maxRecDepth 20000 in
theorem en_X2_isOf {g : OG} {d : Nat} {I : IT} {X : XT} {K : Int32 → IT → XT → Prop} {l0 : Int32} {l1 : Int32} 
    (H : (l0 = l1 →
        K 1 I X) ∧
      (¬ l0 = l1 →
        (l1 = 0 →
          K 1 I X) ∧
        (¬ l1 = 0 →
          (¬ l0 = 4 →
            (¬ l0 = 5 →
              K 0 I X) ∧
            (l0 = 5 →
              (¬ l1 = 2 →
                K 0 I X) ∧
              (l1 = 2 →
                K 1 I X))) ∧
          (l0 = 4 →
            (l1 = 1 →
              K 1 I X) ∧
            (¬ l1 = 1 →
              (¬ l0 = 5 →
                K 0 I X) ∧
              (l0 = 5 →
                (¬ l1 = 2 →
                  K 0 I X) ∧
                (l1 = 2 →
                  K 1 I X))))))) : CI g (d + 1) iX2_isOf [.int l0, .int l1] I X K := by
  refine ocall_of (by decide) (Nat.le_of_ble_eq_true rfl) ?_
  show SR g (d + 1) iX2_isOf 0 [(0, .int l0), (1, .int l1)] I X (qI K)
  refine r_iload_n (n := 1) 0 dX2_isOf_0 rfl rfl ?_
  refine r_iload_n (n := 2) 1 dX2_isOf_1 rfl rfl ?_
  refine r_icmp_eq (n := 5) (tgt := 29) dX2_isOf_2 (by decide) rfl (fun c => ?_) (fun c => ?_)
  · have H := H.1 c
    refine r_iconst (n := 30) (v := 1) dX2_isOf_29 ki_1 rfl ?_
    refine r_goto (n := 34) dX2_isOf_30 (by decide) ?_
    exact rs_zret dX2_isOf_34 rfl (by decide) H
  · have H := H.2 c
    refine r_iload_n (n := 6) 1 dX2_isOf_5 rfl rfl ?_
    refine r_if_eq (n := 9) (tgt := 29) dX2_isOf_6 (by decide) rfl (fun c => ?_) (fun c => ?_)
    · have H := H.1 c
      refine r_iconst (n := 30) (v := 1) dX2_isOf_29 ki_1 rfl ?_
      refine r_goto (n := 34) dX2_isOf_30 (by decide) ?_
      exact rs_zret dX2_isOf_34 rfl (by decide) H
    · have H := H.2 c
      refine r_iload_n (n := 10) 0 dX2_isOf_9 rfl rfl ?_
      refine r_iconst (n := 11) (v := 4) dX2_isOf_10 ki_4 rfl ?_
      refine r_icmp_ne (n := 14) (tgt := 19) dX2_isOf_11 (by decide) rfl (fun c => ?_) (fun c => ?_)
      · have H := H.1 c
        refine r_iload_n (n := 20) 0 dX2_isOf_19 rfl rfl ?_
        refine r_iconst (n := 21) (v := 5) dX2_isOf_20 ki_5 rfl ?_
        refine r_icmp_ne (n := 24) (tgt := 33) dX2_isOf_21 (by decide) rfl (fun c => ?_) (fun c => ?_)
        · have H := H.1 c
          refine r_iconst (n := 34) (v := 0) dX2_isOf_33 ki_0 rfl ?_
          exact rs_zret dX2_isOf_34 rfl (by decide) H
        · have H := H.2 c
          refine r_iload_n (n := 25) 1 dX2_isOf_24 rfl rfl ?_
          refine r_iconst (n := 26) (v := 2) dX2_isOf_25 ki_2 rfl ?_
          refine r_icmp_ne (n := 29) (tgt := 33) dX2_isOf_26 (by decide) rfl (fun c => ?_) (fun c => ?_)
          · have H := H.1 c
            refine r_iconst (n := 34) (v := 0) dX2_isOf_33 ki_0 rfl ?_
            exact rs_zret dX2_isOf_34 rfl (by decide) H
          · have H := H.2 c
            refine r_iconst (n := 30) (v := 1) dX2_isOf_29 ki_1 rfl ?_
            refine r_goto (n := 34) dX2_isOf_30 (by decide) ?_
            exact rs_zret dX2_isOf_34 rfl (by decide) H
      · have H := H.2 c
        refine r_iload_n (n := 15) 1 dX2_isOf_14 rfl rfl ?_
        refine r_iconst (n := 16) (v := 1) dX2_isOf_15 ki_1 rfl ?_
        refine r_icmp_eq (n := 19) (tgt := 29) dX2_isOf_16 (by decide) rfl (fun c => ?_) (fun c => ?_)
        · have H := H.1 c
          refine r_iconst (n := 30) (v := 1) dX2_isOf_29 ki_1 rfl ?_
          refine r_goto (n := 34) dX2_isOf_30 (by decide) ?_
          exact rs_zret dX2_isOf_34 rfl (by decide) H
        · have H := H.2 c
          refine r_iload_n (n := 20) 0 dX2_isOf_19 rfl rfl ?_
          refine r_iconst (n := 21) (v := 5) dX2_isOf_20 ki_5 rfl ?_
          refine r_icmp_ne (n := 24) (tgt := 33) dX2_isOf_21 (by decide) rfl (fun c => ?_) (fun c => ?_)
          · have H := H.1 c
            refine r_iconst (n := 34) (v := 0) dX2_isOf_33 ki_0 rfl ?_
            exact rs_zret dX2_isOf_34 rfl (by decide) H
          · have H := H.2 c
            refine r_iload_n (n := 25) 1 dX2_isOf_24 rfl rfl ?_
            refine r_iconst (n := 26) (v := 2) dX2_isOf_25 ki_2 rfl ?_
            refine r_icmp_ne (n := 29) (tgt := 33) dX2_isOf_26 (by decide) rfl (fun c => ?_) (fun c => ?_)
            · have H := H.1 c
              refine r_iconst (n := 34) (v := 0) dX2_isOf_33 ki_0 rfl ?_
              exact rs_zret dX2_isOf_34 rfl (by decide) H
            · have H := H.2 c
              refine r_iconst (n := 30) (v := 1) dX2_isOf_29 ki_1 rfl ?_
              refine r_goto (n := 34) dX2_isOf_30 (by decide) ?_
              exact rs_zret dX2_isOf_34 rfl (by decide) H
set_option maxRecDepth 20000 in
theorem en_X2_takes {g : OG} {d : Nat} {I : IT} {X : XT} {K : Int32 → IT → XT → Prop} {l0 : Int32} {l1 : Int32} 
    (H : (l0 = 1 →
        (¬ (l1 - l1 / 2 * 2) = 0 →
          K 0 I X) ∧
        ((l1 - l1 / 2 * 2) = 0 →
          K 1 I X)) ∧
      (¬ l0 = 1 →
        (l0 = 2 →
        K 1 I X) ∧
      (¬ l0 = 2 →
        (l0 = 3 →
        K 2 I X) ∧
      (¬ l0 = 3 →
        (l0 = 4 →
        (¬ (l1 - l1 / 4 * 4) = 0 →
          K 0 I X) ∧
        ((l1 - l1 / 4 * 4) = 0 →
          K 1 I X)) ∧
      (¬ l0 = 4 →
        K 1 I X))))) : CI g (d + 1) iX2_takes [.int l0, .int l1] I X K := by
  refine ocall_of (by decide) (Nat.le_of_ble_eq_true rfl) ?_
  show SR g (d + 1) iX2_takes 0 [(0, .int l0), (1, .int l1)] I X (qI K)
  refine r_iload_n (n := 1) 0 dX2_takes_0 rfl rfl ?_
  refine sw_split H (fun cs1 H => ?_) (fun cs1 H => ?_)
  · refine r_tcase (n := 34) (v := 1) (off := 33) dX2_takes_1 cs1 (by decide) (by decide) (by decide) ?_
    refine r_iload_n (n := 35) 1 dX2_takes_34 rfl rfl ?_
    refine r_iconst (n := 36) (v := 2) dX2_takes_35 ki_2 rfl ?_
    refine r_irem (n := 37) dX2_takes_36 (by decide) rfl ?_
    refine r_if_ne (n := 40) (tgt := 44) dX2_takes_37 (by decide) rfl (fun c => ?_) (fun c => ?_)
    · have H := H.1 c
      refine r_iconst (n := 45) (v := 0) dX2_takes_44 ki_0 rfl ?_
      exact rs_iret dX2_takes_45 rfl H
    · have H := H.2 c
      refine r_iconst (n := 41) (v := 1) dX2_takes_40 ki_1 rfl ?_
      refine r_goto (n := 45) dX2_takes_41 (by decide) ?_
      exact rs_iret dX2_takes_45 rfl H
  · skip
    refine sw_split H (fun cs2 H => ?_) (fun cs2 H => ?_)
    · refine r_tcase (n := 58) (v := 2) (off := 57) dX2_takes_1 cs2 (by decide) (by decide) (by decide) ?_
      refine r_iconst (n := 59) (v := 1) dX2_takes_58 ki_1 rfl ?_
      exact rs_iret dX2_takes_59 rfl H
    · skip
      refine sw_split H (fun cs3 H => ?_) (fun cs3 H => ?_)
      · refine r_tcase (n := 32) (v := 3) (off := 31) dX2_takes_1 cs3 (by decide) (by decide) (by decide) ?_
        refine r_iconst (n := 33) (v := 2) dX2_takes_32 ki_2 rfl ?_
        exact rs_iret dX2_takes_33 rfl H
      · skip
        refine sw_split H (fun cs4 H => ?_) (fun cs4 H => ?_)
        · refine r_tcase (n := 46) (v := 4) (off := 45) dX2_takes_1 cs4 (by decide) (by decide) (by decide) ?_
          refine r_iload_n (n := 47) 1 dX2_takes_46 rfl rfl ?_
          refine r_iconst (n := 48) (v := 4) dX2_takes_47 ki_4 rfl ?_
          refine r_irem (n := 49) dX2_takes_48 (by decide) rfl ?_
          refine r_if_ne (n := 52) (tgt := 56) dX2_takes_49 (by decide) rfl (fun c => ?_) (fun c => ?_)
          · have H := H.1 c
            refine r_iconst (n := 57) (v := 0) dX2_takes_56 ki_0 rfl ?_
            exact rs_iret dX2_takes_57 rfl H
          · have H := H.2 c
            refine r_iconst (n := 53) (v := 1) dX2_takes_52 ki_1 rfl ?_
            refine r_goto (n := 57) dX2_takes_53 (by decide) ?_
            exact rs_iret dX2_takes_57 rfl H
        · skip
          refine r_tout (n := 58) dX2_takes_1 (by have e0 := lv_neT cs1 (a := 1) (by decide); have e1 := lv_neT cs2 (a := 2) (by decide); have e2 := lv_neT cs3 (a := 3) (by decide); have e3 := lv_neT cs4 (a := 4) (by decide); omega) (by decide) ?_
          refine r_iconst (n := 59) (v := 1) dX2_takes_58 ki_1 rfl ?_
          exact rs_iret dX2_takes_59 rfl H
set_option maxRecDepth 20000 in
theorem en_X2_dampest {g : OG} {d : Nat} {I : IT} {X : XT} {K : Int32 → IT → XT → Prop} {l0 : Int32} 
    (H : (l0 = 2 →
        K 1 I X) ∧
      (¬ l0 = 2 →
        (l0 = 5 →
        K 3 I X) ∧
      (¬ l0 = 5 →
        K 0 I X))) : CI g (d + 1) iX2_dampest [.int l0] I X K := by
  refine ocall_of (by decide) (Nat.le_of_ble_eq_true rfl) ?_
  show SR g (d + 1) iX2_dampest 0 [(0, .int l0)] I X (qI K)
  refine r_iload_n (n := 1) 0 dX2_dampest_0 rfl rfl ?_
  refine sw_split H (fun cs1 H => ?_) (fun cs1 H => ?_)
  · refine r_lookup (n := 28) (off := 27) dX2_dampest_1 (by decide) (by rw [cs1]; decide) (by decide) ?_
    refine r_iconst (n := 29) (v := 1) dX2_dampest_28 ki_1 rfl ?_
    exact rs_iret dX2_dampest_29 rfl H
  · skip
    refine sw_split H (fun cs2 H => ?_) (fun cs2 H => ?_)
    · refine r_lookup (n := 30) (off := 29) dX2_dampest_1 (by decide) (by rw [cs2]; decide) (by decide) ?_
      refine r_iconst (n := 31) (v := 3) dX2_dampest_30 ki_3 rfl ?_
      exact rs_iret dX2_dampest_31 rfl H
    · skip
      refine r_lookup (n := 32) (off := 31) dX2_dampest_1 (by decide) (by rw [lv_osw cs1 (by decide), lv_osw cs2 (by decide)]; rfl) (by decide) ?_
      refine r_iconst (n := 33) (v := 0) dX2_dampest_32 ki_0 rfl ?_
      exact rs_iret dX2_dampest_33 rfl H
set_option maxRecDepth 20000 in
theorem en_X3_clear {g : OG} {d : Nat} {I : IT} {X : XT} {K : IT → XT → Prop} {a : Nat} (ha : a ∈ laneL)
    (H : ∀ I1 : IT, I1 = set2 I a 4 0 →
      ∀ I2 : IT, I2 = set2 I1 a 3 0 →
      K I2 X) : CV g (d + 1) iX3_clear [rf g a] I X K := by
  refine ocall_of (by decide) (Nat.le_of_ble_eq_true rfl) ?_
  show SR g (d + 1) iX3_clear 0 [(0, rf g a)] I X (qV K)
  refine r_aload_n (n := 1) 0 dX3_clear_0 rfl rfl ?_
  refine r_iconst (n := 2) (v := 0) dX3_clear_1 ki_0 rfl ?_
  have H := H _ rfl
  refine rs_putI (n := 5) cls_2 4 fp_2_4 (lane_o ha) gw_134 dX3_clear_2 rfl ?_
  refine r_aload_n (n := 6) 0 dX3_clear_5 rfl rfl ?_
  refine r_iconst (n := 7) (v := 0) dX3_clear_6 ki_0 rfl ?_
  have H := H _ rfl
  refine rs_putI (n := 10) cls_2 3 fp_2_3 (lane_o ha) gw_133 dX3_clear_7 rfl ?_
  exact rs_vret dX3_clear_10 rfl H
set_option maxRecDepth 20000 in
theorem en_X3_isEmpty {g : OG} {d : Nat} {I : IT} {X : XT} {K : Int32 → IT → XT → Prop} {a : Nat} (ha : a ∈ laneL)
    (H : (0 < (I a 4) →
        K 0 I X) ∧
      (¬ 0 < (I a 4) →
        K 1 I X)) : CI g (d + 1) iX3_isEmpty [rf g a] I X K := by
  refine ocall_of (by decide) (Nat.le_of_ble_eq_true rfl) ?_
  show SR g (d + 1) iX3_isEmpty 0 [(0, rf g a)] I X (qI K)
  refine r_aload_n (n := 1) 0 dX3_isEmpty_0 rfl rfl ?_
  refine rs_getI (n := 4) cls_2 4 fi_2_4 (lane_o ha) gw_134 dX3_isEmpty_1 rfl ?_
  refine r_if_gt (n := 7) (tgt := 11) dX3_isEmpty_4 (by decide) rfl (fun c => ?_) (fun c => ?_)
  · have H := H.1 c
    refine r_iconst (n := 12) (v := 0) dX3_isEmpty_11 ki_0 rfl ?_
    exact rs_zret dX3_isEmpty_12 rfl (by decide) H
  · have H := H.2 c
    refine r_iconst (n := 8) (v := 1) dX3_isEmpty_7 ki_1 rfl ?_
    refine r_goto (n := 12) dX3_isEmpty_8 (by decide) ?_
    exact rs_zret dX3_isEmpty_12 rfl (by decide) H
set_option maxRecDepth 20000 in
theorem en_X3_isFull {g : OG} {d : Nat} {I : IT} {X : XT} {K : Int32 → IT → XT → Prop} {a : Nat} (ha : a ∈ laneL)
    (H : ((I a 4) < 5 →
        K 0 I X) ∧
      (¬ (I a 4) < 5 →
        K 1 I X)) : CI g (d + 1) iX3_isFull [rf g a] I X K := by
  refine ocall_of (by decide) (Nat.le_of_ble_eq_true rfl) ?_
  show SR g (d + 1) iX3_isFull 0 [(0, rf g a)] I X (qI K)
  refine r_aload_n (n := 1) 0 dX3_isFull_0 rfl rfl ?_
  refine rs_getI (n := 4) cls_2 4 fi_2_4 (lane_o ha) gw_134 dX3_isFull_1 rfl ?_
  refine r_iconst (n := 5) (v := 5) dX3_isFull_4 ki_5 rfl ?_
  refine r_icmp_lt (n := 8) (tgt := 12) dX3_isFull_5 (by decide) rfl (fun c => ?_) (fun c => ?_)
  · have H := H.1 c
    refine r_iconst (n := 13) (v := 0) dX3_isFull_12 ki_0 rfl ?_
    exact rs_zret dX3_isFull_13 rfl (by decide) H
  · have H := H.2 c
    refine r_iconst (n := 9) (v := 1) dX3_isFull_8 ki_1 rfl ?_
    refine r_goto (n := 13) dX3_isFull_9 (by decide) ?_
    exact rs_zret dX3_isFull_13 rfl (by decide) H
set_option maxRecDepth 20000 in
theorem en_X3_has {g : OG} {d : Nat} {I : IT} {X : XT} {K : Int32 → IT → XT → Prop} {a : Nat} {l1 : Int32} (ha : a ∈ laneL)
    (H : (l1 < 0 →
        K 0 I X) ∧
      (¬ l1 < 0 →
        ((I a 4) ≤ l1 →
          K 0 I X) ∧
        (¬ (I a 4) ≤ l1 →
          K 1 I X))) : CI g (d + 1) iX3_has [rf g a, .int l1] I X K := by
  refine ocall_of (by decide) (Nat.le_of_ble_eq_true rfl) ?_
  show SR g (d + 1) iX3_has 0 [(0, rf g a), (1, .int l1)] I X (qI K)
  refine r_iload_n (n := 1) 1 dX3_has_0 rfl rfl ?_
  refine r_if_lt (n := 4) (tgt := 16) dX3_has_1 (by decide) rfl (fun c => ?_) (fun c => ?_)
  · have H := H.1 c
    refine r_iconst (n := 17) (v := 0) dX3_has_16 ki_0 rfl ?_
    exact rs_zret dX3_has_17 rfl (by decide) H
  · have H := H.2 c
    refine r_iload_n (n := 5) 1 dX3_has_4 rfl rfl ?_
    refine r_aload_n (n := 6) 0 dX3_has_5 rfl rfl ?_
    refine rs_getI (n := 9) cls_2 4 fi_2_4 (lane_o ha) gw_134 dX3_has_6 rfl ?_
    refine r_icmp_ge (n := 12) (tgt := 16) dX3_has_9 (by decide) rfl (fun c => ?_) (fun c => ?_)
    · have H := H.1 c
      refine r_iconst (n := 17) (v := 0) dX3_has_16 ki_0 rfl ?_
      exact rs_zret dX3_has_17 rfl (by decide) H
    · have H := H.2 c
      refine r_iconst (n := 13) (v := 1) dX3_has_12 ki_1 rfl ?_
      refine r_goto (n := 17) dX3_has_13 (by decide) ?_
      exact rs_zret dX3_has_17 rfl (by decide) H
set_option maxRecDepth 20000 in
theorem en_X3_allHouses {g : OG} {d : Nat} {I : IT} {X : XT} {K : Int32 → IT → XT → Prop} {a : Nat} (ha : a ∈ laneL)
    (H : K ((1 <<< ((I a 4) &&& 31)) - 1) I X) : CI g (d + 1) iX3_allHouses [rf g a] I X K := by
  refine ocall_of (by decide) (Nat.le_of_ble_eq_true rfl) ?_
  show SR g (d + 1) iX3_allHouses 0 [(0, rf g a)] I X (qI K)
  refine r_iconst (n := 1) (v := 1) dX3_allHouses_0 ki_1 rfl ?_
  refine r_aload_n (n := 2) 0 dX3_allHouses_1 rfl rfl ?_
  refine rs_getI (n := 5) cls_2 4 fi_2_4 (lane_o ha) gw_134 dX3_allHouses_2 rfl ?_
  refine r_ishl (n := 6) dX3_allHouses_5 rfl ?_
  refine r_iconst (n := 7) (v := 1) dX3_allHouses_6 ki_1 rfl ?_
  refine r_isub (n := 8) dX3_allHouses_7 rfl ?_
  exact rs_iret dX3_allHouses_8 rfl H
set_option maxRecDepth 20000 in
theorem en_X3_hasWinds {g : OG} {d : Nat} {I : IT} {X : XT} {K : Int32 → IT → XT → Prop} {a : Nat} (ha : a ∈ laneL)
    (H : ((I a 3) ≤ 0 →
        K 0 I X) ∧
      (¬ (I a 3) ≤ 0 →
        K 1 I X)) : CI g (d + 1) iX3_hasWinds [rf g a] I X K := by
  refine ocall_of (by decide) (Nat.le_of_ble_eq_true rfl) ?_
  show SR g (d + 1) iX3_hasWinds 0 [(0, rf g a)] I X (qI K)
  refine r_aload_n (n := 1) 0 dX3_hasWinds_0 rfl rfl ?_
  refine rs_getI (n := 4) cls_2 3 fi_2_3 (lane_o ha) gw_133 dX3_hasWinds_1 rfl ?_
  refine r_if_le (n := 7) (tgt := 11) dX3_hasWinds_4 (by decide) rfl (fun c => ?_) (fun c => ?_)
  · have H := H.1 c
    refine r_iconst (n := 12) (v := 0) dX3_hasWinds_11 ki_0 rfl ?_
    exact rs_zret dX3_hasWinds_12 rfl (by decide) H
  · have H := H.2 c
    refine r_iconst (n := 8) (v := 1) dX3_hasWinds_7 ki_1 rfl ?_
    refine r_goto (n := 12) dX3_hasWinds_8 (by decide) ?_
    exact rs_zret dX3_hasWinds_12 rfl (by decide) H
set_option maxRecDepth 20000 in
theorem en_X3_hasAllWinds {g : OG} {d : Nat} {I : IT} {X : XT} {K : Int32 → IT → XT → Prop} {a : Nat} (ha : a ∈ laneL)
    (H : ((I a 3) < 6 →
        K 0 I X) ∧
      (¬ (I a 3) < 6 →
        K 1 I X)) : CI g (d + 1) iX3_hasAllWinds [rf g a] I X K := by
  refine ocall_of (by decide) (Nat.le_of_ble_eq_true rfl) ?_
  show SR g (d + 1) iX3_hasAllWinds 0 [(0, rf g a)] I X (qI K)
  refine r_aload_n (n := 1) 0 dX3_hasAllWinds_0 rfl rfl ?_
  refine rs_getI (n := 4) cls_2 3 fi_2_3 (lane_o ha) gw_133 dX3_hasAllWinds_1 rfl ?_
  refine r_bipush (n := 6) (v := 6) dX3_hasAllWinds_4 kb_6 rfl ?_
  refine r_icmp_lt (n := 9) (tgt := 13) dX3_hasAllWinds_6 (by decide) rfl (fun c => ?_) (fun c => ?_)
  · have H := H.1 c
    refine r_iconst (n := 14) (v := 0) dX3_hasAllWinds_13 ki_0 rfl ?_
    exact rs_zret dX3_hasAllWinds_14 rfl (by decide) H
  · have H := H.2 c
    refine r_iconst (n := 10) (v := 1) dX3_hasAllWinds_9 ki_1 rfl ?_
    refine r_goto (n := 14) dX3_hasAllWinds_10 (by decide) ?_
    exact rs_zret dX3_hasAllWinds_14 rfl (by decide) H
set_option maxRecDepth 20000 in
theorem en_X3_addWind {g : OG} {d : Nat} {I : IT} {X : XT} {K : IT → XT → Prop} {a : Nat} {l1 : Int32} (ha : a ∈ laneL)
    (H : CI g d iX3_hasAllWinds [rf g a] I X (fun r1 I2 X3 =>
        (¬ r1 = 0 →
          K I2 X3) ∧
        (r1 = 0 →
          vp_in (I2 a 3) 6 ∧
          ∀ I5 : IT, I5 = set2 I2 (a + 3) (I2 a 3).toNatClampNeg l1 →
          ∀ I6 : IT, I6 = set2 I5 a 3 ((I5 a 3) + 1) →
          K I6 X3))) : CV g (d + 1) iX3_addWind [rf g a, .int l1] I X K := by
  refine ocall_of (by decide) (Nat.le_of_ble_eq_true rfl) ?_
  show SR g (d + 1) iX3_addWind 0 [(0, rf g a), (1, .int l1)] I X (qV K)
  refine r_aload_n (n := 1) 0 dX3_addWind_0 rfl rfl ?_
  refine rs_cVi (n := 4) (rest := []) (As := []) vm_X3_hasAllWinds gw_508 (lane_o ha) cq_2 dX3_addWind_1 rfl rfl (Nat.le_of_ble_eq_true rfl) rfl (CI.mono H (fun r1 I2 X3 H => ?_))
  refine r_if_ne (n := 7) (tgt := 27) dX3_addWind_4 (by decide) rfl (fun c => ?_) (fun c => ?_)
  · have H := H.1 c
    exact rs_vret dX3_addWind_27 rfl H
  · have H := H.2 c
    refine r_aload_n (n := 8) 0 dX3_addWind_7 rfl rfl ?_
    refine r_getR (n := 11) cls_2 2 fi_2_2 (lane_o ha) gw_132 dX3_addWind_8 rfl (lane_r2 ha) (lane_n2 ha) ?_
    refine r_aload_n (n := 12) 0 dX3_addWind_11 rfl rfl ?_
    refine rs_getI (n := 15) cls_2 3 fi_2_3 (lane_o ha) gw_133 dX3_addWind_12 rfl ?_
    refine r_iload_n (n := 16) 1 dX3_addWind_15 rfl rfl ?_
    obtain ⟨hi4, H⟩ := H
    have H := H _ rfl
    refine rs_iast (n := 17) (lane_a2 ha) hi4 dX3_addWind_16 rfl ?_
    refine r_aload_n (n := 18) 0 dX3_addWind_17 rfl rfl ?_
    refine r_dup (n := 19) dX3_addWind_18 rfl rfl ?_
    refine rs_getI (n := 22) cls_2 3 fi_2_3 (lane_o ha) gw_133 dX3_addWind_19 rfl ?_
    refine r_iconst (n := 23) (v := 1) dX3_addWind_22 ki_1 rfl ?_
    refine r_iadd (n := 24) dX3_addWind_23 rfl ?_
    have H := H _ rfl
    refine rs_putI (n := 27) cls_2 3 fp_2_3 (lane_o ha) gw_133 dX3_addWind_24 rfl ?_
    exact rs_vret dX3_addWind_27 rfl H
set_option maxRecDepth 20000 in
theorem en_X3_addHouse {g : OG} {d : Nat} {I : IT} {X : XT} {K : IT → XT → Prop} {a : Nat} {l1 : Int32} {l2 : Int32} (ha : a ∈ laneL)
    (H : CI g d iX3_isFull [rf g a] I X (fun r1 I2 X3 =>
        (¬ r1 = 0 →
          K I2 X3) ∧
        (r1 = 0 →
          vp_in (I2 a 4) 5 ∧
          ∀ I5 : IT, I5 = set2 I2 (a + 1) (I2 a 4).toNatClampNeg l1 →
          vp_in (I5 a 4) 5 ∧
          ∀ I7 : IT, I7 = set2 I5 (a + 2) (I5 a 4).toNatClampNeg l2 →
          ∀ I8 : IT, I8 = set2 I7 a 4 ((I7 a 4) + 1) →
          K I8 X3))) : CV g (d + 1) iX3_addHouse [rf g a, .int l1, .int l2] I X K := by
  refine ocall_of (by decide) (Nat.le_of_ble_eq_true rfl) ?_
  show SR g (d + 1) iX3_addHouse 0 [(0, rf g a), (1, .int l1), (2, .int l2)] I X (qV K)
  refine r_aload_n (n := 1) 0 dX3_addHouse_0 rfl rfl ?_
  refine rs_cVi (n := 4) (rest := []) (As := []) vm_X3_isFull gw_531 (lane_o ha) cq_2 dX3_addHouse_1 rfl rfl (Nat.le_of_ble_eq_true rfl) rfl (CI.mono H (fun r1 I2 X3 H => ?_))
  refine r_if_ne (n := 7) (tgt := 37) dX3_addHouse_4 (by decide) rfl (fun c => ?_) (fun c => ?_)
  · have H := H.1 c
    exact rs_vret dX3_addHouse_37 rfl H
  · have H := H.2 c
    refine r_aload_n (n := 8) 0 dX3_addHouse_7 rfl rfl ?_
    refine r_getR (n := 11) cls_2 0 fi_2_0 (lane_o ha) gw_128 dX3_addHouse_8 rfl (lane_r0 ha) (lane_n0 ha) ?_
    refine r_aload_n (n := 12) 0 dX3_addHouse_11 rfl rfl ?_
    refine rs_getI (n := 15) cls_2 4 fi_2_4 (lane_o ha) gw_134 dX3_addHouse_12 rfl ?_
    refine r_iload_n (n := 16) 1 dX3_addHouse_15 rfl rfl ?_
    obtain ⟨hi4, H⟩ := H
    have H := H _ rfl
    refine rs_iast (n := 17) (lane_a0 ha) hi4 dX3_addHouse_16 rfl ?_
    refine r_aload_n (n := 18) 0 dX3_addHouse_17 rfl rfl ?_
    refine r_getR (n := 21) cls_2 1 fi_2_1 (lane_o ha) gw_130 dX3_addHouse_18 rfl (lane_r1 ha) (lane_n1 ha) ?_
    refine r_aload_n (n := 22) 0 dX3_addHouse_21 rfl rfl ?_
    refine rs_getI (n := 25) cls_2 4 fi_2_4 (lane_o ha) gw_134 dX3_addHouse_22 rfl ?_
    refine r_iload_n (n := 26) 2 dX3_addHouse_25 rfl rfl ?_
    obtain ⟨hi6, H⟩ := H
    have H := H _ rfl
    refine rs_iast (n := 27) (lane_a1 ha) hi6 dX3_addHouse_26 rfl ?_
    refine r_aload_n (n := 28) 0 dX3_addHouse_27 rfl rfl ?_
    refine r_dup (n := 29) dX3_addHouse_28 rfl rfl ?_
    refine rs_getI (n := 32) cls_2 4 fi_2_4 (lane_o ha) gw_134 dX3_addHouse_29 rfl ?_
    refine r_iconst (n := 33) (v := 1) dX3_addHouse_32 ki_1 rfl ?_
    refine r_iadd (n := 34) dX3_addHouse_33 rfl ?_
    have H := H _ rfl
    refine rs_putI (n := 37) cls_2 4 fp_2_4 (lane_o ha) gw_134 dX3_addHouse_34 rfl ?_
    exact rs_vret dX3_addHouse_37 rfl H
set_option maxRecDepth 20000 in
theorem en_X3_kindOf {g : OG} {d : Nat} {I : IT} {X : XT} {K : Int32 → IT → XT → Prop} {a : Nat} {l1 : Int32} (ha : a ∈ laneL)
    (H : CI g d iX3_has [rf g a, .int l1] I X (fun r1 I2 X3 =>
        (r1 = 0 →
          K 0 I2 X3) ∧
        (¬ r1 = 0 →
          vp_in l1 5 ∧
          K (I2 (a + 1) l1.toNatClampNeg) I2 X3))) : CI g (d + 1) iX3_kindOf [rf g a, .int l1] I X K := by
  refine ocall_of (by decide) (Nat.le_of_ble_eq_true rfl) ?_
  show SR g (d + 1) iX3_kindOf 0 [(0, rf g a), (1, .int l1)] I X (qI K)
  refine r_aload_n (n := 1) 0 dX3_kindOf_0 rfl rfl ?_
  refine r_iload_n (n := 2) 1 dX3_kindOf_1 rfl rfl ?_
  refine rs_cVi (n := 5) (rest := []) (As := [.int _]) vm_X3_has gw_571 (lane_o ha) cq_2 dX3_kindOf_2 rfl rfl (Nat.le_of_ble_eq_true rfl) rfl (CI.mono H (fun r1 I2 X3 H => ?_))
  refine r_if_eq (n := 8) (tgt := 17) dX3_kindOf_5 (by decide) rfl (fun c => ?_) (fun c => ?_)
  · have H := H.1 c
    refine r_iconst (n := 18) (v := 0) dX3_kindOf_17 ki_0 rfl ?_
    exact rs_iret dX3_kindOf_18 rfl H
  · have H := H.2 c
    refine r_aload_n (n := 9) 0 dX3_kindOf_8 rfl rfl ?_
    refine r_getR (n := 12) cls_2 0 fi_2_0 (lane_o ha) gw_128 dX3_kindOf_9 rfl (lane_r0 ha) (lane_n0 ha) ?_
    refine r_iload_n (n := 13) 1 dX3_kindOf_12 rfl rfl ?_
    obtain ⟨hi4, H⟩ := H
    refine rs_iald (n := 14) (lane_a0 ha) hi4 dX3_kindOf_13 rfl ?_
    refine r_goto (n := 18) dX3_kindOf_14 (by decide) ?_
    exact rs_iret dX3_kindOf_18 rfl H
set_option maxRecDepth 20000 in
theorem en_X3_needOf {g : OG} {d : Nat} {I : IT} {X : XT} {K : Int32 → IT → XT → Prop} {a : Nat} {l1 : Int32} (ha : a ∈ laneL)
    (H : CI g d iX3_has [rf g a, .int l1] I X (fun r1 I2 X3 =>
        (r1 = 0 →
          K ((-9)) I2 X3) ∧
        (¬ r1 = 0 →
          vp_in l1 5 ∧
          K (I2 (a + 2) l1.toNatClampNeg) I2 X3))) : CI g (d + 1) iX3_needOf [rf g a, .int l1] I X K := by
  refine ocall_of (by decide) (Nat.le_of_ble_eq_true rfl) ?_
  show SR g (d + 1) iX3_needOf 0 [(0, rf g a), (1, .int l1)] I X (qI K)
  refine r_aload_n (n := 1) 0 dX3_needOf_0 rfl rfl ?_
  refine r_iload_n (n := 2) 1 dX3_needOf_1 rfl rfl ?_
  refine rs_cVi (n := 5) (rest := []) (As := [.int _]) vm_X3_has gw_571 (lane_o ha) cq_2 dX3_needOf_2 rfl rfl (Nat.le_of_ble_eq_true rfl) rfl (CI.mono H (fun r1 I2 X3 H => ?_))
  refine r_if_eq (n := 8) (tgt := 17) dX3_needOf_5 (by decide) rfl (fun c => ?_) (fun c => ?_)
  · have H := H.1 c
    refine r_bipush (n := 19) (v := (-9)) dX3_needOf_17 kb_m9 rfl ?_
    exact rs_iret dX3_needOf_19 rfl H
  · have H := H.2 c
    refine r_aload_n (n := 9) 0 dX3_needOf_8 rfl rfl ?_
    refine r_getR (n := 12) cls_2 1 fi_2_1 (lane_o ha) gw_130 dX3_needOf_9 rfl (lane_r1 ha) (lane_n1 ha) ?_
    refine r_iload_n (n := 13) 1 dX3_needOf_12 rfl rfl ?_
    obtain ⟨hi4, H⟩ := H
    refine rs_iald (n := 14) (lane_a1 ha) hi4 dX3_needOf_13 rfl ?_
    refine r_goto (n := 19) dX3_needOf_14 (by decide) ?_
    exact rs_iret dX3_needOf_19 rfl H
set_option maxRecDepth 20000 in
theorem en_X3_windAt {g : OG} {d : Nat} {I : IT} {X : XT} {K : Int32 → IT → XT → Prop} {a : Nat} {l1 : Int32} (ha : a ∈ laneL)
    (H : (l1 < 0 →
        K 0 I X) ∧
      (¬ l1 < 0 →
        CI g d iX3_hasWinds [rf g a] I X (fun r1 I2 X3 =>
          (¬ r1 = 0 →
            ¬ (I2 a 3) = 0 ∧
            vp_in (l1 - l1 / (I2 a 3) * (I2 a 3)) 6 ∧
            K (I2 (a + 3) (l1 - l1 / (I2 a 3) * (I2 a 3)).toNatClampNeg) I2 X3) ∧
          (r1 = 0 →
            K 0 I2 X3)))) : CI g (d + 1) iX3_windAt [rf g a, .int l1] I X K := by
  refine ocall_of (by decide) (Nat.le_of_ble_eq_true rfl) ?_
  show SR g (d + 1) iX3_windAt 0 [(0, rf g a), (1, .int l1)] I X (qI K)
  refine r_iload_n (n := 1) 1 dX3_windAt_0 rfl rfl ?_
  refine r_if_lt (n := 4) (tgt := 11) dX3_windAt_1 (by decide) rfl (fun c => ?_) (fun c => ?_)
  · have H := H.1 c
    refine r_iconst (n := 12) (v := 0) dX3_windAt_11 ki_0 rfl ?_
    refine r_goto (n := 26) dX3_windAt_12 (by decide) ?_
    exact rs_iret dX3_windAt_26 rfl H
  · have H := H.2 c
    refine r_aload_n (n := 5) 0 dX3_windAt_4 rfl rfl ?_
    refine rs_cVi (n := 8) (rest := []) (As := []) vm_X3_hasWinds gw_605 (lane_o ha) cq_2 dX3_windAt_5 rfl rfl (Nat.le_of_ble_eq_true rfl) rfl (CI.mono H (fun r1 I2 X3 H => ?_))
    refine r_if_ne (n := 11) (tgt := 15) dX3_windAt_8 (by decide) rfl (fun c => ?_) (fun c => ?_)
    · have H := H.1 c
      refine r_aload_n (n := 16) 0 dX3_windAt_15 rfl rfl ?_
      refine r_getR (n := 19) cls_2 2 fi_2_2 (lane_o ha) gw_132 dX3_windAt_16 rfl (lane_r2 ha) (lane_n2 ha) ?_
      refine r_iload_n (n := 20) 1 dX3_windAt_19 rfl rfl ?_
      refine r_aload_n (n := 21) 0 dX3_windAt_20 rfl rfl ?_
      refine rs_getI (n := 24) cls_2 3 fi_2_3 (lane_o ha) gw_133 dX3_windAt_21 rfl ?_
      obtain ⟨hz4, H⟩ := H
      refine r_irem (n := 25) dX3_windAt_24 hz4 rfl ?_
      obtain ⟨hi5, H⟩ := H
      refine rs_iald (n := 26) (lane_a2 ha) hi5 dX3_windAt_25 rfl ?_
      exact rs_iret dX3_windAt_26 rfl H
    · have H := H.2 c
      refine r_iconst (n := 12) (v := 0) dX3_windAt_11 ki_0 rfl ?_
      refine r_goto (n := 26) dX3_windAt_12 (by decide) ?_
      exact rs_iret dX3_windAt_26 rfl H
set_option maxRecDepth 20000 in
theorem en_X3_countOf {g : OG} {d : Nat} {I : IT} {X : XT} {K : Int32 → IT → XT → Prop} {a : Nat} {l1 : Int32} (ha : a ∈ laneL)
    (H : SR g (d + 1) iX3_countOf 4 [(0, rf g a), (1, .int l1), (2, .int 0), (3, .int 0)] I X (qI K)) : CI g (d + 1) iX3_countOf [rf g a, .int l1] I X K := by
  refine ocall_of (by decide) (Nat.le_of_ble_eq_true rfl) ?_
  show SR g (d + 1) iX3_countOf 0 [(0, rf g a), (1, .int l1)] I X (qI K)
  refine r_iconst (n := 1) (v := 0) dX3_countOf_0 ki_0 rfl ?_
  refine r_istore_n (n := 2) (lv' := [(2, .int _), (0, .ref _), (1, .int _)]) dX3_countOf_1 rfl (by decide) rfl rfl ?_
  refine r_iconst (n := 3) (v := 0) dX3_countOf_2 ki_0 rfl ?_
  refine r_istore_n (n := 4) (lv' := [(3, .int _), (2, .int _), (0, .ref _), (1, .int _)]) dX3_countOf_3 rfl (by decide) rfl rfl ?_
  exact r_sub [2, 3, 1, 0] rfl H
set_option maxRecDepth 20000 in
theorem rg_X3_countOf_4 {g : OG} {d : Nat} {I : IT} {X : XT} {K : Int32 → IT → XT → Prop} {a : Nat} {l1 : Int32} {l2 : Int32} {l3 : Int32} (ha : a ∈ laneL)
    (H : ((I a 4) ≤ l3 →
        K l2 I X) ∧
      (¬ (I a 4) ≤ l3 →
        vp_in l3 5 ∧
        CI g d iX2_isOf [.int (I (a + 1) l3.toNatClampNeg), .int l1] I X (fun r2 I3 X4 =>
          (r2 = 0 →
            ∀ x5 : Int32, x5 = l2 + 0 →
            ∀ x6 : Int32, x6 = l3 + 1 →
            SR g (d + 1) iX3_countOf 4 [(0, rf g a), (1, .int l1), (2, .int x5), (3, .int x6)] I3 X4 (qI K)) ∧
          (¬ r2 = 0 →
            ∀ x7 : Int32, x7 = l2 + 1 →
            ∀ x8 : Int32, x8 = l3 + 1 →
            SR g (d + 1) iX3_countOf 4 [(0, rf g a), (1, .int l1), (2, .int x7), (3, .int x8)] I3 X4 (qI K))))) : SR g (d + 1) iX3_countOf 4 [(0, rf g a), (1, .int l1), (2, .int l2), (3, .int l3)] I X (qI K) := by
  refine r_iload_n (n := 5) 3 dX3_countOf_4 rfl rfl ?_
  refine r_aload_n (n := 6) 0 dX3_countOf_5 rfl rfl ?_
  refine rs_getI (n := 9) cls_2 4 fi_2_4 (lane_o ha) gw_134 dX3_countOf_6 rfl ?_
  refine r_icmp_ge (n := 12) (tgt := 39) dX3_countOf_9 (by decide) rfl (fun c => ?_) (fun c => ?_)
  · have H := H.1 c
    refine r_iload_n (n := 40) 2 dX3_countOf_39 rfl rfl ?_
    exact rs_iret dX3_countOf_40 rfl H
  · have H := H.2 c
    refine r_iload_n (n := 13) 2 dX3_countOf_12 rfl rfl ?_
    refine r_aload_n (n := 14) 0 dX3_countOf_13 rfl rfl ?_
    refine r_getR (n := 17) cls_2 0 fi_2_0 (lane_o ha) gw_128 dX3_countOf_14 rfl (lane_r0 ha) (lane_n0 ha) ?_
    refine r_iload_n (n := 18) 3 dX3_countOf_17 rfl rfl ?_
    obtain ⟨hi1, H⟩ := H
    refine rs_iald (n := 19) (lane_a0 ha) hi1 dX3_countOf_18 rfl ?_
    refine r_iload_n (n := 20) 1 dX3_countOf_19 rfl rfl ?_
    refine rs_cSi (n := 23) (rest := [.int _]) (As := [.int _, .int _]) sm_X2_isOf gw_983 dX3_countOf_20 rfl rfl (Nat.le_of_ble_eq_true rfl) rfl (CI.mono H (fun r2 I3 X4 H => ?_))
    refine r_if_eq (n := 26) (tgt := 30) dX3_countOf_23 (by decide) rfl (fun c => ?_) (fun c => ?_)
    · have H := H.1 c
      refine r_iconst (n := 31) (v := 0) dX3_countOf_30 ki_0 rfl ?_
      refine r_iadd (n := 32) dX3_countOf_31 rfl ?_
      have H := H _ rfl
      refine r_istore_n (n := 33) (lv' := [(2, .int _), (0, .ref _), (1, .int _), (3, .int _)]) dX3_countOf_32 rfl (by decide) rfl rfl ?_
      have H := H _ rfl
      refine r_iinc (n := 36) (lv' := [(3, .int _), (2, .int _), (0, .ref _), (1, .int _)]) 3 dX3_countOf_33 rfl rfl (by decide) rfl rfl ?_
      refine r_goto (n := 4) dX3_countOf_36 (by decide) ?_
      exact r_sub [2, 3, 1, 0] rfl H
    · have H := H.2 c
      refine r_iconst (n := 27) (v := 1) dX3_countOf_26 ki_1 rfl ?_
      refine r_goto (n := 31) dX3_countOf_27 (by decide) ?_
      refine r_iadd (n := 32) dX3_countOf_31 rfl ?_
      have H := H _ rfl
      refine r_istore_n (n := 33) (lv' := [(2, .int _), (0, .ref _), (1, .int _), (3, .int _)]) dX3_countOf_32 rfl (by decide) rfl rfl ?_
      have H := H _ rfl
      refine r_iinc (n := 36) (lv' := [(3, .int _), (2, .int _), (0, .ref _), (1, .int _)]) 3 dX3_countOf_33 rfl rfl (by decide) rfl rfl ?_
      refine r_goto (n := 4) dX3_countOf_36 (by decide) ?_
      exact r_sub [2, 3, 1, 0] rfl H
set_option maxRecDepth 20000 in
theorem en_X4_reckon {g : OG} {d : Nat} {I : IT} {X : XT} {K : IT → XT → Prop} {p1 : Nat} {l2 : Int32} {p3 : Nat} {l4 : Int32} (hp1 : p1 ∈ fireL) (hp3 : p3 ∈ rowL)
    (H : ∀ X1 : XT, X1 = (X.1, X.2.1, p3) →
      ∀ I2 : IT, I2 = set2 I 111 2 l2 →
      ∀ I3 : IT, I3 = set2 I2 111 3 l4 →
      ∀ X4 : XT, X4 = (set2L X1.1 111 5 1, X1.2) →
      SR g (d + 1) iX4_reckon 24 [(0, rf g 111), (1, rf g p1), (3, rf g p3), (5, .int 0)] I3 X4 (qV K)) : CV g (d + 1) iX4_reckon [rf g 111, rf g p1, .int l2, rf g p3, .int l4] I X K := by
  refine ocall_of (by decide) (Nat.le_of_ble_eq_true rfl) ?_
  show SR g (d + 1) iX4_reckon 0 [(0, rf g 111), (1, rf g p1), (2, .int l2), (3, rf g p3), (4, .int l4)] I X (qV K)
  refine r_aload_n (n := 1) 0 dX4_reckon_0 rfl rfl ?_
  refine r_aload_n (n := 2) 3 dX4_reckon_1 rfl rfl ?_
  have H := H _ rfl
  refine rs_putPlan (n := 5) (rowl_nz hp3) gw_299 dX4_reckon_2 rfl ?_
  refine r_aload_n (n := 6) 0 dX4_reckon_5 rfl rfl ?_
  refine r_iload_n (n := 7) 2 dX4_reckon_6 rfl rfl ?_
  have H := H _ rfl
  refine rs_putI (n := 10) cls_3 2 fp_3_2 so_111 gw_300 dX4_reckon_7 rfl ?_
  refine r_aload_n (n := 11) 0 dX4_reckon_10 rfl rfl ?_
  refine r_iload (n := 13) 4 dX4_reckon_11 rfl rfl ?_
  have H := H _ rfl
  refine rs_putI (n := 16) cls_3 3 fp_3_3 so_111 gw_301 dX4_reckon_13 rfl ?_
  refine r_aload_n (n := 17) 0 dX4_reckon_16 rfl rfl ?_
  refine r_lconst (n := 18) (v := 1) dX4_reckon_17 (by decide) rfl ?_
  have H := H _ rfl
  refine rs_putL (n := 21) cls_3 5 fp_3_5 so_111 gw_304 dX4_reckon_18 rfl ?_
  refine r_iconst (n := 22) (v := 0) dX4_reckon_21 ki_0 rfl ?_
  refine r_istore (n := 24) (lv' := [(5, .int _), (0, .ref _), (1, .ref _), (2, .int _), (3, .ref _), (4, .int _)]) dX4_reckon_22 (by decide) rfl rfl ?_
  exact r_sub [1, 2, 4, 0] rfl H
set_option maxRecDepth 20000 in
theorem rg_X4_reckon_24 {g : OG} {d : Nat} {I : IT} {X : XT} {K : IT → XT → Prop} {p1 : Nat} {p3 : Nat} {l5 : Int32} (hp1 : p1 ∈ fireL) (hp3 : p3 ∈ rowL)
    (H : ((I p3 1) ≤ l5 →
        vp_in 0 5 ∧
        CV g d iX1_become [rf g (olvA (0 : Int32).toNatClampNeg), rf g p1] I X (fun I2 X3 =>
          CL g d iX4_casesFrom [rf g 111, .int 0] I2 X3 (fun r4 I5 X6 =>
            ∀ X7 : XT, X7 = (set2L X6.1 111 4 r4, X6.2) →
            K I5 X7))) ∧
      (¬ (I p3 1) ≤ l5 →
        ∀ X8 : XT, X8 = (set2L X.1 111 5 ((X.1 111 5) * 12), X.2) →
        ∀ x9 : Int32, x9 = l5 + 1 →
        SR g (d + 1) iX4_reckon 24 [(0, rf g 111), (1, rf g p1), (3, rf g p3), (5, .int x9)] I X8 (qV K))) : SR g (d + 1) iX4_reckon 24 [(0, rf g 111), (1, rf g p1), (3, rf g p3), (5, .int l5)] I X (qV K) := by
  refine r_iload (n := 26) 3 dX4_reckon_24 rfl rfl ?_
  refine r_aload_n (n := 27) 2 dX4_reckon_26 rfl rfl ?_
  refine rs_getI (n := 30) cls_6 1 fi_6_1 (row_o hp3) gw_97 dX4_reckon_27 rfl ?_
  refine r_icmp_ge (n := 33) (tgt := 51) dX4_reckon_30 (by decide) rfl (fun c => ?_) (fun c => ?_)
  · have H := H.1 c
    refine r_aload_n (n := 52) 0 dX4_reckon_51 rfl rfl ?_
    refine r_getR (n := 55) cls_3 0 fi_3_0 so_111 gw_298 dX4_reckon_52 rfl sr_111_0 (by decide) ?_
    refine r_iconst (n := 56) (v := 0) dX4_reckon_55 ki_0 rfl ?_
    obtain ⟨hi1, H⟩ := H
    refine r_aald (n := 57) (z := 5) (t0 := 6) (K := "OneMatch$Fire") sa_112 (by decide) (fun _ => rfl) hi1 dX4_reckon_56 rfl (olv_el hi1) (olv_nz hi1) ?_
    refine r_aload_n (n := 58) 1 dX4_reckon_57 rfl rfl ?_
    refine rs_cVv (n := 61) (rest := []) (As := [.ref _]) vm_X1_become gw_934 (fire_o (olv_mem hi1)) cq_1 dX4_reckon_58 rfl rfl (Nat.le_of_ble_eq_true rfl) rfl (CV.mono H (fun I2 X3 H => ?_))
    refine r_aload_n (n := 62) 0 dX4_reckon_61 rfl rfl ?_
    refine r_aload_n (n := 63) 0 dX4_reckon_62 rfl rfl ?_
    refine r_iconst (n := 64) (v := 0) dX4_reckon_63 ki_0 rfl ?_
    refine rs_cVl (n := 67) (rest := [.ref _]) (As := [.int _]) vm_X4_casesFrom gw_935 so_111 cq_3 dX4_reckon_64 rfl rfl (Nat.le_of_ble_eq_true rfl) rfl (CL.mono H (fun r4 I5 X6 H => ?_))
    have H := H _ rfl
    refine rs_putL (n := 70) cls_3 4 fp_3_4 so_111 gw_302 dX4_reckon_67 rfl ?_
    exact rs_vret dX4_reckon_70 rfl H
  · have H := H.2 c
    refine r_aload_n (n := 34) 0 dX4_reckon_33 rfl rfl ?_
    refine r_dup (n := 35) dX4_reckon_34 rfl rfl ?_
    refine rs_getL (n := 38) cls_3 5 fi_3_5 so_111 gw_304 dX4_reckon_35 rfl ?_
    refine r_ldc2 (n := 41) (v := 12) dX4_reckon_38 gw_933 rfl ?_
    refine r_lmul (n := 42) dX4_reckon_41 rfl ?_
    have H := H _ rfl
    refine rs_putL (n := 45) cls_3 5 fp_3_5 so_111 gw_304 dX4_reckon_42 rfl ?_
    have H := H _ rfl
    refine r_iinc (n := 48) (lv' := [(5, .int _), (0, .ref _), (1, .ref _), (3, .ref _)]) 3 dX4_reckon_45 rfl rfl (by decide) rfl rfl ?_
    refine r_goto (n := 24) dX4_reckon_48 (by decide) ?_
    exact r_sub [1, 2, 3, 0] rfl H
set_option maxRecDepth 20000 in
theorem en_X4_casesFrom {g : OG} {d : Nat} {I : IT} {X : XT} {K : Int64 → IT → XT → Prop} {l1 : Int32} 
    (H : X.2.2 ∈ rowL ∧
      (l1 < 0 →
        K 0 I X) ∧
      (¬ l1 < 0 →
        (l1 ≤ 4 →
          X.2.2 ∈ rowL ∧
          (l1 < (I X.2.2 1) →
            X.2.2 ∈ rowL ∧
            CI g d iX7_get [rf g X.2.2, .int l1] I X (fun r4 I5 X6 =>
              vp_in l1 5 ∧
              CI g d iX1_canMove [rf g (olvA l1.toNatClampNeg), .int r4] I5 X6 (fun r8 I9 X10 =>
                (¬ r8 = 0 →
                  CL g d iX4_casesBehind [rf g 111, .int l1, .int 36] I9 X10 (fun r11 I12 X13 =>
                    CL g d iX4_casesBehind [rf g 111, .int l1, .int r4] I12 X13 (fun r14 I15 X16 =>
                      K ((((I9 111 3).toInt64) * r11) + (((12 - (I12 111 3)).toInt64) * r14)) I15 X16))) ∧
                (r8 = 0 →
                  CL g d iX4_casesBehind [rf g 111, .int l1, .int 36] I9 X10 (fun r17 I18 X19 =>
                    K (12 * r17) I18 X19))))) ∧
          (¬ l1 < (I X.2.2 1) →
            vp_in l1 5 ∧
            CI g d iX1_burns [rf g (olvA l1.toNatClampNeg), .int (I 111 2)] I X (fun r21 I22 X23 =>
              (r21 = 0 →
                K 0 I22 X23) ∧
              (¬ r21 = 0 →
                K 1 I22 X23)))) ∧
        (¬ l1 ≤ 4 →
          K 0 I X))) : CL g (d + 1) iX4_casesFrom [rf g 111, .int l1] I X K := by
  refine ocall_of (by decide) (Nat.le_of_ble_eq_true rfl) ?_
  show SR g (d + 1) iX4_casesFrom 0 [(0, rf g 111), (1, .int l1)] I X (qL K)
  refine r_aload_n (n := 1) 0 dX4_casesFrom_0 rfl rfl ?_
  obtain ⟨hm1, H⟩ := H
  refine r_getR (n := 4) cls_3 1 fi_3_1 so_111 gw_299 dX4_casesFrom_1 rfl sr_111_1 (rowl_nz hm1) ?_
  refine r_ifnull (n := 7) dX4_casesFrom_4 rfl ?_
  refine r_iload_n (n := 8) 1 dX4_casesFrom_7 rfl rfl ?_
  refine r_if_lt (n := 11) (tgt := 16) dX4_casesFrom_8 (by decide) rfl (fun c => ?_) (fun c => ?_)
  · have H := H.1 c
    refine r_lconst (n := 17) (v := 0) dX4_casesFrom_16 (by decide) rfl ?_
    exact rs_lret dX4_casesFrom_17 rfl H
  · have H := H.2 c
    refine r_iload_n (n := 12) 1 dX4_casesFrom_11 rfl rfl ?_
    refine r_iconst (n := 13) (v := 4) dX4_casesFrom_12 ki_4 rfl ?_
    refine r_icmp_le (n := 16) (tgt := 18) dX4_casesFrom_13 (by decide) rfl (fun c => ?_) (fun c => ?_)
    · have H := H.1 c
      refine r_iload_n (n := 19) 1 dX4_casesFrom_18 rfl rfl ?_
      refine r_aload_n (n := 20) 0 dX4_casesFrom_19 rfl rfl ?_
      obtain ⟨hm2, H⟩ := H
      refine r_getR (n := 23) cls_3 1 fi_3_1 so_111 gw_299 dX4_casesFrom_20 rfl sr_111_1 (rowl_nz hm2) ?_
      refine rs_getI (n := 26) cls_6 1 fi_6_1 (row_o hm2) gw_97 dX4_casesFrom_23 rfl ?_
      refine r_icmp_lt (n := 29) (tgt := 51) dX4_casesFrom_26 (by decide) rfl (fun c => ?_) (fun c => ?_)
      · have H := H.1 c
        refine r_aload_n (n := 52) 0 dX4_casesFrom_51 rfl rfl ?_
        obtain ⟨hm3, H⟩ := H
        refine r_getR (n := 55) cls_3 1 fi_3_1 so_111 gw_299 dX4_casesFrom_52 rfl sr_111_1 (rowl_nz hm3) ?_
        refine r_iload_n (n := 56) 1 dX4_casesFrom_55 rfl rfl ?_
        refine rs_cVi (n := 59) (rest := []) (As := [.int _]) vm_X7_get gw_940 (row_o hm3) cq_6 dX4_casesFrom_56 rfl rfl (Nat.le_of_ble_eq_true rfl) rfl (CI.mono H (fun r4 I5 X6 H => ?_))
        refine r_istore_n (n := 60) (lv' := [(2, .int _), (0, .ref _), (1, .int _)]) dX4_casesFrom_59 rfl (by decide) rfl rfl ?_
        refine r_aload_n (n := 61) 1 dX4_casesFrom_60 rfl rfl ?_
        refine r_getR (n := 64) cls_3 0 fi_3_0 so_111 gw_298 dX4_casesFrom_61 rfl sr_111_0 (by decide) ?_
        refine r_iload_n (n := 65) 2 dX4_casesFrom_64 rfl rfl ?_
        obtain ⟨hi7, H⟩ := H
        refine r_aald (n := 66) (z := 5) (t0 := 6) (K := "OneMatch$Fire") sa_112 (by decide) (fun _ => rfl) hi7 dX4_casesFrom_65 rfl (olv_el hi7) (olv_nz hi7) ?_
        refine r_iload_n (n := 67) 0 dX4_casesFrom_66 rfl rfl ?_
        refine rs_cVi (n := 70) (rest := []) (As := [.int _]) vm_X1_canMove gw_941 (fire_o (olv_mem hi7)) cq_1 dX4_casesFrom_67 rfl rfl (Nat.le_of_ble_eq_true rfl) rfl (CI.mono H (fun r8 I9 X10 H => ?_))
        refine r_if_ne (n := 73) (tgt := 85) dX4_casesFrom_70 (by decide) rfl (fun c => ?_) (fun c => ?_)
        · have H := H.1 c
          refine r_aload_n (n := 86) 1 dX4_casesFrom_85 rfl rfl ?_
          refine rs_getI (n := 89) cls_3 3 fi_3_3 so_111 gw_301 dX4_casesFrom_86 rfl ?_
          refine r_i2l (n := 90) dX4_casesFrom_89 rfl ?_
          refine r_aload_n (n := 91) 1 dX4_casesFrom_90 rfl rfl ?_
          refine r_iload_n (n := 92) 2 dX4_casesFrom_91 rfl rfl ?_
          refine r_bipush (n := 94) (v := 36) dX4_casesFrom_92 kb_36 rfl ?_
          refine rs_cVl (n := 97) (rest := [.long _]) (As := [.int _, .int _]) vm_X4_casesBehind gw_942 so_111 cq_3 dX4_casesFrom_94 rfl rfl (Nat.le_of_ble_eq_true rfl) rfl (CL.mono H (fun r11 I12 X13 H => ?_))
          refine r_lmul (n := 98) dX4_casesFrom_97 rfl ?_
          refine r_bipush (n := 100) (v := 12) dX4_casesFrom_98 kb_12 rfl ?_
          refine r_aload_n (n := 101) 1 dX4_casesFrom_100 rfl rfl ?_
          refine rs_getI (n := 104) cls_3 3 fi_3_3 so_111 gw_301 dX4_casesFrom_101 rfl ?_
          refine r_isub (n := 105) dX4_casesFrom_104 rfl ?_
          refine r_i2l (n := 106) dX4_casesFrom_105 rfl ?_
          refine r_aload_n (n := 107) 1 dX4_casesFrom_106 rfl rfl ?_
          refine r_iload_n (n := 108) 2 dX4_casesFrom_107 rfl rfl ?_
          refine r_iload_n (n := 109) 0 dX4_casesFrom_108 rfl rfl ?_
          refine rs_cVl (n := 112) (rest := [.long _, .long _]) (As := [.int _, .int _]) vm_X4_casesBehind gw_942 so_111 cq_3 dX4_casesFrom_109 rfl rfl (Nat.le_of_ble_eq_true rfl) rfl (CL.mono H (fun r14 I15 X16 H => ?_))
          refine r_lmul (n := 113) dX4_casesFrom_112 rfl ?_
          refine r_ladd (n := 114) dX4_casesFrom_113 rfl ?_
          exact rs_lret dX4_casesFrom_114 rfl H
        · have H := H.2 c
          refine r_ldc2 (n := 76) (v := 12) dX4_casesFrom_73 gw_933 rfl ?_
          refine r_aload_n (n := 77) 1 dX4_casesFrom_76 rfl rfl ?_
          refine r_iload_n (n := 78) 2 dX4_casesFrom_77 rfl rfl ?_
          refine r_bipush (n := 80) (v := 36) dX4_casesFrom_78 kb_36 rfl ?_
          refine rs_cVl (n := 83) (rest := [.long _]) (As := [.int _, .int _]) vm_X4_casesBehind gw_942 so_111 cq_3 dX4_casesFrom_80 rfl rfl (Nat.le_of_ble_eq_true rfl) rfl (CL.mono H (fun r17 I18 X19 H => ?_))
          refine r_lmul (n := 84) dX4_casesFrom_83 rfl ?_
          exact rs_lret dX4_casesFrom_84 rfl H
      · have H := H.2 c
        refine r_aload_n (n := 30) 0 dX4_casesFrom_29 rfl rfl ?_
        refine r_getR (n := 33) cls_3 0 fi_3_0 so_111 gw_298 dX4_casesFrom_30 rfl sr_111_0 (by decide) ?_
        refine r_iload_n (n := 34) 1 dX4_casesFrom_33 rfl rfl ?_
        obtain ⟨hi20, H⟩ := H
        refine r_aald (n := 35) (z := 5) (t0 := 6) (K := "OneMatch$Fire") sa_112 (by decide) (fun _ => rfl) hi20 dX4_casesFrom_34 rfl (olv_el hi20) (olv_nz hi20) ?_
        refine r_aload_n (n := 36) 0 dX4_casesFrom_35 rfl rfl ?_
        refine rs_getI (n := 39) cls_3 2 fi_3_2 so_111 gw_300 dX4_casesFrom_36 rfl ?_
        refine rs_cVi (n := 42) (rest := []) (As := [.int _]) vm_X1_burns gw_939 (fire_o (olv_mem hi20)) cq_1 dX4_casesFrom_39 rfl rfl (Nat.le_of_ble_eq_true rfl) rfl (CI.mono H (fun r21 I22 X23 H => ?_))
        refine r_if_eq (n := 45) (tgt := 49) dX4_casesFrom_42 (by decide) rfl (fun c => ?_) (fun c => ?_)
        · have H := H.1 c
          refine r_lconst (n := 50) (v := 0) dX4_casesFrom_49 (by decide) rfl ?_
          exact rs_lret dX4_casesFrom_50 rfl H
        · have H := H.2 c
          refine r_lconst (n := 46) (v := 1) dX4_casesFrom_45 (by decide) rfl ?_
          refine r_goto (n := 50) dX4_casesFrom_46 (by decide) ?_
          exact rs_lret dX4_casesFrom_50 rfl H
    · have H := H.2 c
      refine r_lconst (n := 17) (v := 0) dX4_casesFrom_16 (by decide) rfl ?_
      exact rs_lret dX4_casesFrom_17 rfl H
set_option maxRecDepth 20000 in
theorem en_X4_casesBehind {g : OG} {d : Nat} {I : IT} {X : XT} {K : Int64 → IT → XT → Prop} {l1 : Int32} {l2 : Int32} 
    (H : (l1 < 0 →
        K 0 I X) ∧
      (¬ l1 < 0 →
        (l1 < 4 →
          vp_in (l1 + 1) 5 ∧
          vp_in l1 5 ∧
          CV g d iX1_become [rf g (olvA (l1 + 1).toNatClampNeg), rf g (olvA l1.toNatClampNeg)] I X (fun I3 X4 =>
            CV g d iX1_bring [rf g (olvA (l1 + 1).toNatClampNeg), .int l2] I3 X4 (fun I5 X6 =>
              CV g d iX1_pass [rf g (olvA (l1 + 1).toNatClampNeg)] I5 X6 (fun I7 X8 =>
                CL g d iX4_casesFrom [rf g 111, .int (l1 + 1)] I7 X8 (fun r9 I10 X11 =>
                  K r9 I10 X11))))) ∧
        (¬ l1 < 4 →
          K 0 I X))) : CL g (d + 1) iX4_casesBehind [rf g 111, .int l1, .int l2] I X K := by
  refine ocall_of (by decide) (Nat.le_of_ble_eq_true rfl) ?_
  show SR g (d + 1) iX4_casesBehind 0 [(0, rf g 111), (1, .int l1), (2, .int l2)] I X (qL K)
  refine r_iload_n (n := 1) 1 dX4_casesBehind_0 rfl rfl ?_
  refine r_if_lt (n := 4) (tgt := 9) dX4_casesBehind_1 (by decide) rfl (fun c => ?_) (fun c => ?_)
  · have H := H.1 c
    refine r_lconst (n := 10) (v := 0) dX4_casesBehind_9 (by decide) rfl ?_
    exact rs_lret dX4_casesBehind_10 rfl H
  · have H := H.2 c
    refine r_iload_n (n := 5) 1 dX4_casesBehind_4 rfl rfl ?_
    refine r_iconst (n := 6) (v := 4) dX4_casesBehind_5 ki_4 rfl ?_
    refine r_icmp_lt (n := 9) (tgt := 11) dX4_casesBehind_6 (by decide) rfl (fun c => ?_) (fun c => ?_)
    · have H := H.1 c
      refine r_aload_n (n := 12) 0 dX4_casesBehind_11 rfl rfl ?_
      refine r_getR (n := 15) cls_3 0 fi_3_0 so_111 gw_298 dX4_casesBehind_12 rfl sr_111_0 (by decide) ?_
      refine r_iload_n (n := 16) 1 dX4_casesBehind_15 rfl rfl ?_
      refine r_iconst (n := 17) (v := 1) dX4_casesBehind_16 ki_1 rfl ?_
      refine r_iadd (n := 18) dX4_casesBehind_17 rfl ?_
      obtain ⟨hi1, H⟩ := H
      refine r_aald (n := 19) (z := 5) (t0 := 6) (K := "OneMatch$Fire") sa_112 (by decide) (fun _ => rfl) hi1 dX4_casesBehind_18 rfl (olv_el hi1) (olv_nz hi1) ?_
      refine r_astore_n (n := 20) (lv' := [(3, .ref _), (0, .ref _), (1, .int _), (2, .int _)]) dX4_casesBehind_19 rfl (by decide) rfl rfl ?_
      refine r_aload_n (n := 21) 0 dX4_casesBehind_20 rfl rfl ?_
      refine r_aload_n (n := 22) 1 dX4_casesBehind_21 rfl rfl ?_
      refine r_getR (n := 25) cls_3 0 fi_3_0 so_111 gw_298 dX4_casesBehind_22 rfl sr_111_0 (by decide) ?_
      refine r_iload_n (n := 26) 2 dX4_casesBehind_25 rfl rfl ?_
      obtain ⟨hi2, H⟩ := H
      refine r_aald (n := 27) (z := 5) (t0 := 6) (K := "OneMatch$Fire") sa_112 (by decide) (fun _ => rfl) hi2 dX4_casesBehind_26 rfl (olv_el hi2) (olv_nz hi2) ?_
      refine rs_cVv (n := 30) (rest := []) (As := [.ref _]) vm_X1_become gw_934 (fire_o (olv_mem hi1)) cq_1 dX4_casesBehind_27 rfl rfl (Nat.le_of_ble_eq_true rfl) rfl (CV.mono H (fun I3 X4 H => ?_))
      refine r_aload_n (n := 31) 0 dX4_casesBehind_30 rfl rfl ?_
      refine r_iload_n (n := 32) 3 dX4_casesBehind_31 rfl rfl ?_
      refine rs_cVv (n := 35) (rest := []) (As := [.int _]) vm_X1_bring gw_946 (fire_o (olv_mem hi1)) cq_1 dX4_casesBehind_32 rfl rfl (Nat.le_of_ble_eq_true rfl) rfl (CV.mono H (fun I5 X6 H => ?_))
      refine r_aload_n (n := 36) 0 dX4_casesBehind_35 rfl rfl ?_
      refine rs_cVv (n := 39) (rest := []) (As := []) vm_X1_pass gw_947 (fire_o (olv_mem hi1)) cq_1 dX4_casesBehind_36 rfl rfl (Nat.le_of_ble_eq_true rfl) rfl (CV.mono H (fun I7 X8 H => ?_))
      refine r_aload_n (n := 40) 1 dX4_casesBehind_39 rfl rfl ?_
      refine r_iload_n (n := 41) 2 dX4_casesBehind_40 rfl rfl ?_
      refine r_iconst (n := 42) (v := 1) dX4_casesBehind_41 ki_1 rfl ?_
      refine r_iadd (n := 43) dX4_casesBehind_42 rfl ?_
      refine rs_cVl (n := 46) (rest := []) (As := [.int _]) vm_X4_casesFrom gw_935 so_111 cq_3 dX4_casesBehind_43 rfl rfl (Nat.le_of_ble_eq_true rfl) rfl (CL.mono H (fun r9 I10 X11 H => ?_))
      exact rs_lret dX4_casesBehind_46 rfl H
    · have H := H.2 c
      refine r_lconst (n := 10) (v := 0) dX4_casesBehind_9 (by decide) rfl ?_
      exact rs_lret dX4_casesBehind_10 rfl H
set_option maxRecDepth 20000 in
theorem en_X5_search {g : OG} {d : Nat} {I : IT} {X : XT} {K : IT → XT → Prop} {p1 : Nat} {l2 : Int32} {l3 : Int32} {l4 : Int32} (hp1 : p1 ∈ fireL)
    (H : ∀ I1 : IT, I1 = set2 I 72 5 ((if 0 < ((if 4 < l2 then 4 else l2 : Int32)) then ((if 4 < l2 then 4 else l2 : Int32)) else 0 : Int32)) →
      ∀ I2 : IT, I2 = set2 I1 72 3 l3 →
      ∀ I3 : IT, I3 = set2 I2 72 4 l4 →
      ∀ I4 : IT, I4 = set2 I3 72 6 ((-1)) →
      ∀ I5 : IT, I5 = set2 I4 72 7 0 →
      ∀ I6 : IT, I6 = set2 I5 72 8 0 →
      ∀ I7 : IT, I7 = set2 I6 72 9 0 →
      vp_in 0 5 ∧
      CV g d iX1_become [rf g (plvA (0 : Int32).toNatClampNeg), rf g p1] I7 X (fun I9 X10 =>
        CV g d iX5_walk [rf g 72, .int 0] I9 X10 (fun I11 X12 =>
          K I11 X12))) : CV g (d + 1) iX5_search [rf g 72, rf g p1, .int l2, .int l3, .int l4] I X K := by
  refine ocall_of (by decide) (Nat.le_of_ble_eq_true rfl) ?_
  show SR g (d + 1) iX5_search 0 [(0, rf g 72), (1, rf g p1), (2, .int l2), (3, .int l3), (4, .int l4)] I X (qV K)
  refine r_aload_n (n := 1) 0 dX5_search_0 rfl rfl ?_
  refine r_iconst (n := 2) (v := 0) dX5_search_1 ki_0 rfl ?_
  refine r_iload_n (n := 3) 2 dX5_search_2 rfl rfl ?_
  refine r_iconst (n := 4) (v := 4) dX5_search_3 ki_4 rfl ?_
  refine r_mmin (n := 7) dX5_search_4 ⟨gw_794, gw_795, gw_77, gw_796⟩ (Nat.le_of_ble_eq_true rfl) rfl ?_
  refine r_mmax (n := 10) dX5_search_7 ⟨gw_797, gw_675, gw_77, gw_676⟩ (Nat.le_of_ble_eq_true rfl) rfl ?_
  have H := H _ rfl
  refine rs_putI (n := 13) cls_4 5 fp_4_5 so_72 gw_233 dX5_search_10 rfl ?_
  refine r_aload_n (n := 14) 0 dX5_search_13 rfl rfl ?_
  refine r_iload_n (n := 15) 3 dX5_search_14 rfl rfl ?_
  have H := H _ rfl
  refine rs_putI (n := 18) cls_4 3 fp_4_3 so_72 gw_231 dX5_search_15 rfl ?_
  refine r_aload_n (n := 19) 0 dX5_search_18 rfl rfl ?_
  refine r_iload (n := 21) 4 dX5_search_19 rfl rfl ?_
  have H := H _ rfl
  refine rs_putI (n := 24) cls_4 4 fp_4_4 so_72 gw_232 dX5_search_21 rfl ?_
  refine r_aload_n (n := 25) 0 dX5_search_24 rfl rfl ?_
  refine r_iconst (n := 26) (v := (-1)) dX5_search_25 ki_m1 rfl ?_
  have H := H _ rfl
  refine rs_putI (n := 29) cls_4 6 fp_4_6 so_72 gw_235 dX5_search_26 rfl ?_
  refine r_aload_n (n := 30) 0 dX5_search_29 rfl rfl ?_
  refine r_iconst (n := 31) (v := 0) dX5_search_30 ki_0 rfl ?_
  have H := H _ rfl
  refine rs_putI (n := 34) cls_4 7 fp_4_7 so_72 gw_237 dX5_search_31 rfl ?_
  refine r_aload_n (n := 35) 0 dX5_search_34 rfl rfl ?_
  refine r_iconst (n := 36) (v := 0) dX5_search_35 ki_0 rfl ?_
  have H := H _ rfl
  refine rs_putI (n := 39) cls_4 8 fp_4_8 so_72 gw_239 dX5_search_36 rfl ?_
  refine r_aload_n (n := 40) 0 dX5_search_39 rfl rfl ?_
  refine r_iconst (n := 41) (v := 0) dX5_search_40 ki_0 rfl ?_
  have H := H _ rfl
  refine rs_putI (n := 44) cls_4 9 fp_4_9 so_72 gw_241 dX5_search_41 rfl ?_
  refine r_aload_n (n := 45) 0 dX5_search_44 rfl rfl ?_
  refine r_getR (n := 48) cls_4 0 fi_4_0 so_72 gw_228 dX5_search_45 rfl sr_72_0 (by decide) ?_
  refine r_iconst (n := 49) (v := 0) dX5_search_48 ki_0 rfl ?_
  obtain ⟨hi8, H⟩ := H
  refine r_aald (n := 50) (z := 5) (t0 := 6) (K := "OneMatch$Fire") sa_73 (by decide) (fun _ => rfl) hi8 dX5_search_49 rfl (plv_el hi8) (plv_nz hi8) ?_
  refine r_aload_n (n := 51) 1 dX5_search_50 rfl rfl ?_
  refine rs_cVv (n := 54) (rest := []) (As := [.ref _]) vm_X1_become gw_798 (fire_o (plv_mem hi8)) cq_1 dX5_search_51 rfl rfl (Nat.le_of_ble_eq_true rfl) rfl (CV.mono H (fun I9 X10 H => ?_))
  refine r_aload_n (n := 55) 0 dX5_search_54 rfl rfl ?_
  refine r_iconst (n := 56) (v := 0) dX5_search_55 ki_0 rfl ?_
  refine rs_cVv (n := 59) (rest := []) (As := [.int _]) vm_X5_walk gw_799 so_72 cq_4 dX5_search_56 rfl rfl (Nat.le_of_ble_eq_true rfl) rfl (CV.mono H (fun I11 X12 H => ?_))
  exact rs_vret dX5_search_59 rfl H
set_option maxRecDepth 20000 in
theorem en_X5_isFound {g : OG} {d : Nat} {I : IT} {X : XT} {K : Int32 → IT → XT → Prop}  
    (H : ((I 72 6) < 0 →
        K 0 I X) ∧
      (¬ (I 72 6) < 0 →
        K 1 I X)) : CI g (d + 1) iX5_isFound [rf g 72] I X K := by
  refine ocall_of (by decide) (Nat.le_of_ble_eq_true rfl) ?_
  show SR g (d + 1) iX5_isFound 0 [(0, rf g 72)] I X (qI K)
  refine r_aload_n (n := 1) 0 dX5_isFound_0 rfl rfl ?_
  refine rs_getI (n := 4) cls_4 6 fi_4_6 so_72 gw_235 dX5_isFound_1 rfl ?_
  refine r_if_lt (n := 7) (tgt := 11) dX5_isFound_4 (by decide) rfl (fun c => ?_) (fun c => ?_)
  · have H := H.1 c
    refine r_iconst (n := 12) (v := 0) dX5_isFound_11 ki_0 rfl ?_
    exact rs_zret dX5_isFound_12 rfl (by decide) H
  · have H := H.2 c
    refine r_iconst (n := 8) (v := 1) dX5_isFound_7 ki_1 rfl ?_
    refine r_goto (n := 12) dX5_isFound_8 (by decide) ?_
    exact rs_zret dX5_isFound_12 rfl (by decide) H
set_option maxRecDepth 20000 in
theorem en_X5_bestMove {g : OG} {d : Nat} {I : IT} {X : XT} {K : Int32 → IT → XT → Prop} {l1 : Int32} 
    (H : (l1 < 0 →
        K 36 I X) ∧
      (¬ l1 < 0 →
        (4 ≤ l1 →
          K 36 I X) ∧
        (¬ 4 ≤ l1 →
          vp_in l1 4 ∧
          K (I 75 l1.toNatClampNeg) I X))) : CI g (d + 1) iX5_bestMove [rf g 72, .int l1] I X K := by
  refine ocall_of (by decide) (Nat.le_of_ble_eq_true rfl) ?_
  show SR g (d + 1) iX5_bestMove 0 [(0, rf g 72), (1, .int l1)] I X (qI K)
  refine r_iload_n (n := 1) 1 dX5_bestMove_0 rfl rfl ?_
  refine r_if_lt (n := 4) (tgt := 18) dX5_bestMove_1 (by decide) rfl (fun c => ?_) (fun c => ?_)
  · have H := H.1 c
    refine r_bipush (n := 20) (v := 36) dX5_bestMove_18 kb_36 rfl ?_
    exact rs_iret dX5_bestMove_20 rfl H
  · have H := H.2 c
    refine r_iload_n (n := 5) 1 dX5_bestMove_4 rfl rfl ?_
    refine r_iconst (n := 6) (v := 4) dX5_bestMove_5 ki_4 rfl ?_
    refine r_icmp_ge (n := 9) (tgt := 18) dX5_bestMove_6 (by decide) rfl (fun c => ?_) (fun c => ?_)
    · have H := H.1 c
      refine r_bipush (n := 20) (v := 36) dX5_bestMove_18 kb_36 rfl ?_
      exact rs_iret dX5_bestMove_20 rfl H
    · have H := H.2 c
      refine r_aload_n (n := 10) 0 dX5_bestMove_9 rfl rfl ?_
      refine r_getR (n := 13) cls_4 2 fi_4_2 so_72 gw_230 dX5_bestMove_10 rfl sr_72_2 (by decide) ?_
      refine r_iload_n (n := 14) 1 dX5_bestMove_13 rfl rfl ?_
      obtain ⟨hi1, H⟩ := H
      refine rs_iald (n := 15) sa_75 hi1 dX5_bestMove_14 rfl ?_
      refine r_goto (n := 20) dX5_bestMove_15 (by decide) ?_
      exact rs_iret dX5_bestMove_20 rfl H
set_option maxRecDepth 20000 in
theorem en_X5_walk {g : OG} {d : Nat} {I : IT} {X : XT} {K : IT → XT → Prop} {l1 : Int32} 
    (H : (l1 < 0 →
        K I X) ∧
      (¬ l1 < 0 →
        (l1 ≤ 4 →
          vp_in l1 5 ∧
          (l1 < (I 72 5) →
            SR g (d + 1) iX5_walk 33 [(0, rf g 72), (1, .int l1), (2, rf g (plvA l1.toNatClampNeg)), (3, .int 0)] I X (qV K)) ∧
          (¬ l1 < (I 72 5) →
            CV g d iX5_weigh [rf g 72, rf g (plvA l1.toNatClampNeg)] I X (fun I2 X3 =>
              K I2 X3))) ∧
        (¬ l1 ≤ 4 →
          K I X))) : CV g (d + 1) iX5_walk [rf g 72, .int l1] I X K := by
  refine ocall_of (by decide) (Nat.le_of_ble_eq_true rfl) ?_
  show SR g (d + 1) iX5_walk 0 [(0, rf g 72), (1, .int l1)] I X (qV K)
  refine r_iload_n (n := 1) 1 dX5_walk_0 rfl rfl ?_
  refine r_if_lt (n := 4) (tgt := 9) dX5_walk_1 (by decide) rfl (fun c => ?_) (fun c => ?_)
  · have H := H.1 c
    exact rs_vret dX5_walk_9 rfl H
  · have H := H.2 c
    refine r_iload_n (n := 5) 1 dX5_walk_4 rfl rfl ?_
    refine r_iconst (n := 6) (v := 4) dX5_walk_5 ki_4 rfl ?_
    refine r_icmp_le (n := 9) (tgt := 10) dX5_walk_6 (by decide) rfl (fun c => ?_) (fun c => ?_)
    · have H := H.1 c
      refine r_aload_n (n := 11) 0 dX5_walk_10 rfl rfl ?_
      refine r_getR (n := 14) cls_4 0 fi_4_0 so_72 gw_228 dX5_walk_11 rfl sr_72_0 (by decide) ?_
      refine r_iload_n (n := 15) 1 dX5_walk_14 rfl rfl ?_
      obtain ⟨hi1, H⟩ := H
      refine r_aald (n := 16) (z := 5) (t0 := 6) (K := "OneMatch$Fire") sa_73 (by decide) (fun _ => rfl) hi1 dX5_walk_15 rfl (plv_el hi1) (plv_nz hi1) ?_
      refine r_astore_n (n := 17) (lv' := [(2, .ref _), (0, .ref _), (1, .int _)]) dX5_walk_16 rfl (by decide) rfl rfl ?_
      refine r_iload_n (n := 18) 2 dX5_walk_17 rfl rfl ?_
      refine r_aload_n (n := 19) 1 dX5_walk_18 rfl rfl ?_
      refine rs_getI (n := 22) cls_4 5 fi_4_5 so_72 gw_233 dX5_walk_19 rfl ?_
      refine r_icmp_lt (n := 25) (tgt := 31) dX5_walk_22 (by decide) rfl (fun c => ?_) (fun c => ?_)
      · have H := H.1 c
        refine r_iconst (n := 32) (v := 0) dX5_walk_31 ki_0 rfl ?_
        refine r_istore_n (n := 33) (lv' := [(3, .int _), (2, .ref _), (0, .ref _), (1, .int _)]) dX5_walk_32 rfl (by decide) rfl rfl ?_
        exact r_sub [2, 3, 1, 0] rfl H
      · have H := H.2 c
        refine r_aload_n (n := 26) 1 dX5_walk_25 rfl rfl ?_
        refine r_aload_n (n := 27) 0 dX5_walk_26 rfl rfl ?_
        refine rs_cVv (n := 30) (rest := []) (As := [.ref _]) vm_X5_weigh gw_803 so_72 cq_4 dX5_walk_27 rfl rfl (Nat.le_of_ble_eq_true rfl) rfl (CV.mono H (fun I2 X3 H => ?_))
        exact rs_vret dX5_walk_30 rfl H
    · have H := H.2 c
      exact rs_vret dX5_walk_9 rfl H
set_option maxRecDepth 20000 in
theorem rg_X5_walk_33 {g : OG} {d : Nat} {I : IT} {X : XT} {K : IT → XT → Prop} {l1 : Int32} {p2 : Nat} {l3 : Int32} (hp2 : p2 ∈ fireL)
    (H : (36 < l3 →
        K I X) ∧
      (¬ 36 < l3 →
        CI g d iX5_isOver [rf g 72] I X (fun r1 I2 X3 =>
          (¬ r1 = 0 →
            K I2 X3) ∧
          (r1 = 0 →
            (l3 = 36 →
              CV g d iX5_take [rf g 72, .int l1, .int l3] I2 X3 (fun I4 X5 =>
                ∀ x6 : Int32, x6 = l3 + 1 →
                SR g (d + 1) iX5_walk 33 [(0, rf g 72), (1, .int l1), (2, rf g p2), (3, .int x6)] I4 X5 (qV K))) ∧
            (¬ l3 = 36 →
              CI g d iX1_canMove [rf g p2, .int l3] I2 X3 (fun r7 I8 X9 =>
                (r7 = 0 →
                  ∀ x10 : Int32, x10 = l3 + 1 →
                  SR g (d + 1) iX5_walk 33 [(0, rf g 72), (1, .int l1), (2, rf g p2), (3, .int x10)] I8 X9 (qV K)) ∧
                (¬ r7 = 0 →
                  CV g d iX5_take [rf g 72, .int l1, .int l3] I8 X9 (fun I11 X12 =>
                    ∀ x13 : Int32, x13 = l3 + 1 →
                    SR g (d + 1) iX5_walk 33 [(0, rf g 72), (1, .int l1), (2, rf g p2), (3, .int x13)] I11 X12 (qV K))))))))) : SR g (d + 1) iX5_walk 33 [(0, rf g 72), (1, .int l1), (2, rf g p2), (3, .int l3)] I X (qV K) := by
  refine r_iload_n (n := 34) 3 dX5_walk_33 rfl rfl ?_
  refine r_bipush (n := 36) (v := 36) dX5_walk_34 kb_36 rfl ?_
  refine r_icmp_gt (n := 39) (tgt := 72) dX5_walk_36 (by decide) rfl (fun c => ?_) (fun c => ?_)
  · have H := H.1 c
    exact rs_vret dX5_walk_72 rfl H
  · have H := H.2 c
    refine r_aload_n (n := 40) 0 dX5_walk_39 rfl rfl ?_
    refine rs_cVi (n := 43) (rest := []) (As := []) vm_X5_isOver gw_818 so_72 cq_4 dX5_walk_40 rfl rfl (Nat.le_of_ble_eq_true rfl) rfl (CI.mono H (fun r1 I2 X3 H => ?_))
    refine r_if_ne (n := 46) (tgt := 72) dX5_walk_43 (by decide) rfl (fun c => ?_) (fun c => ?_)
    · have H := H.1 c
      exact rs_vret dX5_walk_72 rfl H
    · have H := H.2 c
      refine r_iload_n (n := 47) 3 dX5_walk_46 rfl rfl ?_
      refine r_bipush (n := 49) (v := 36) dX5_walk_47 kb_36 rfl ?_
      refine r_icmp_eq (n := 52) (tgt := 60) dX5_walk_49 (by decide) rfl (fun c => ?_) (fun c => ?_)
      · have H := H.1 c
        refine r_aload_n (n := 61) 0 dX5_walk_60 rfl rfl ?_
        refine r_iload_n (n := 62) 1 dX5_walk_61 rfl rfl ?_
        refine r_iload_n (n := 63) 3 dX5_walk_62 rfl rfl ?_
        refine rs_cVv (n := 66) (rest := []) (As := [.int _, .int _]) vm_X5_take gw_827 so_72 cq_4 dX5_walk_63 rfl rfl (Nat.le_of_ble_eq_true rfl) rfl (CV.mono H (fun I4 X5 H => ?_))
        have H := H _ rfl
        refine r_iinc (n := 69) (lv' := [(3, .int _), (0, .ref _), (1, .int _), (2, .ref _)]) 3 dX5_walk_66 rfl rfl (by decide) rfl rfl ?_
        refine r_goto (n := 33) dX5_walk_69 (by decide) ?_
        exact r_sub [1, 2, 3, 0] rfl H
      · have H := H.2 c
        refine r_aload_n (n := 53) 2 dX5_walk_52 rfl rfl ?_
        refine r_iload_n (n := 54) 3 dX5_walk_53 rfl rfl ?_
        refine rs_cVi (n := 57) (rest := []) (As := [.int _]) vm_X1_canMove gw_826 (fire_o hp2) cq_1 dX5_walk_54 rfl rfl (Nat.le_of_ble_eq_true rfl) rfl (CI.mono H (fun r7 I8 X9 H => ?_))
        refine r_if_eq (n := 60) (tgt := 66) dX5_walk_57 (by decide) rfl (fun c => ?_) (fun c => ?_)
        · have H := H.1 c
          have H := H _ rfl
          refine r_iinc (n := 69) (lv' := [(3, .int _), (0, .ref _), (1, .int _), (2, .ref _)]) 3 dX5_walk_66 rfl rfl (by decide) rfl rfl ?_
          refine r_goto (n := 33) dX5_walk_69 (by decide) ?_
          exact r_sub [1, 2, 3, 0] rfl H
        · have H := H.2 c
          refine r_aload_n (n := 61) 0 dX5_walk_60 rfl rfl ?_
          refine r_iload_n (n := 62) 1 dX5_walk_61 rfl rfl ?_
          refine r_iload_n (n := 63) 3 dX5_walk_62 rfl rfl ?_
          refine rs_cVv (n := 66) (rest := []) (As := [.int _, .int _]) vm_X5_take gw_827 so_72 cq_4 dX5_walk_63 rfl rfl (Nat.le_of_ble_eq_true rfl) rfl (CV.mono H (fun I11 X12 H => ?_))
          have H := H _ rfl
          refine r_iinc (n := 69) (lv' := [(3, .int _), (0, .ref _), (1, .int _), (2, .ref _)]) 3 dX5_walk_66 rfl rfl (by decide) rfl rfl ?_
          refine r_goto (n := 33) dX5_walk_69 (by decide) ?_
          exact r_sub [1, 2, 3, 0] rfl H
set_option maxRecDepth 20000 in
theorem en_X5_take {g : OG} {d : Nat} {I : IT} {X : XT} {K : IT → XT → Prop} {l1 : Int32} {l2 : Int32} 
    (H : (l1 < 0 →
        K I X) ∧
      (¬ l1 < 0 →
        (l1 < 4 →
          vp_in (l1 + 1) 5 ∧
          vp_in l1 5 ∧
          CV g d iX1_become [rf g (plvA (l1 + 1).toNatClampNeg), rf g (plvA l1.toNatClampNeg)] I X (fun I3 X4 =>
            CV g d iX1_bring [rf g (plvA (l1 + 1).toNatClampNeg), .int l2] I3 X4 (fun I5 X6 =>
              (¬ (I5 72 3) = 3 →
                CV g d iX1_pass [rf g (plvA (l1 + 1).toNatClampNeg)] I5 X6 (fun I7 X8 =>
                  vp_in l1 4 ∧
                  ∀ I10 : IT, I10 = set2 I7 74 l1.toNatClampNeg l2 →
                  CV g d iX5_walk [rf g 72, .int (l1 + 1)] I10 X8 (fun I11 X12 =>
                    K I11 X12))) ∧
              ((I5 72 3) = 3 →
                CI g d iX1_servesHour [rf g (plvA (l1 + 1).toNatClampNeg)] I5 X6 (fun r13 I14 X15 =>
                  (¬ r13 = 0 →
                    CV g d iX1_pass [rf g (plvA (l1 + 1).toNatClampNeg)] I14 X15 (fun I16 X17 =>
                      vp_in l1 4 ∧
                      ∀ I19 : IT, I19 = set2 I16 74 l1.toNatClampNeg l2 →
                      CV g d iX5_walk [rf g 72, .int (l1 + 1)] I19 X17 (fun I20 X21 =>
                        K I20 X21))) ∧
                  (r13 = 0 →
                    K I14 X15)))))) ∧
        (¬ l1 < 4 →
          K I X))) : CV g (d + 1) iX5_take [rf g 72, .int l1, .int l2] I X K := by
  refine ocall_of (by decide) (Nat.le_of_ble_eq_true rfl) ?_
  show SR g (d + 1) iX5_take 0 [(0, rf g 72), (1, .int l1), (2, .int l2)] I X (qV K)
  refine r_iload_n (n := 1) 1 dX5_take_0 rfl rfl ?_
  refine r_if_lt (n := 4) (tgt := 9) dX5_take_1 (by decide) rfl (fun c => ?_) (fun c => ?_)
  · have H := H.1 c
    exact rs_vret dX5_take_9 rfl H
  · have H := H.2 c
    refine r_iload_n (n := 5) 1 dX5_take_4 rfl rfl ?_
    refine r_iconst (n := 6) (v := 4) dX5_take_5 ki_4 rfl ?_
    refine r_icmp_lt (n := 9) (tgt := 10) dX5_take_6 (by decide) rfl (fun c => ?_) (fun c => ?_)
    · have H := H.1 c
      refine r_aload_n (n := 11) 0 dX5_take_10 rfl rfl ?_
      refine r_getR (n := 14) cls_4 0 fi_4_0 so_72 gw_228 dX5_take_11 rfl sr_72_0 (by decide) ?_
      refine r_iload_n (n := 15) 1 dX5_take_14 rfl rfl ?_
      refine r_iconst (n := 16) (v := 1) dX5_take_15 ki_1 rfl ?_
      refine r_iadd (n := 17) dX5_take_16 rfl ?_
      obtain ⟨hi1, H⟩ := H
      refine r_aald (n := 18) (z := 5) (t0 := 6) (K := "OneMatch$Fire") sa_73 (by decide) (fun _ => rfl) hi1 dX5_take_17 rfl (plv_el hi1) (plv_nz hi1) ?_
      refine r_astore_n (n := 19) (lv' := [(3, .ref _), (0, .ref _), (1, .int _), (2, .int _)]) dX5_take_18 rfl (by decide) rfl rfl ?_
      refine r_aload_n (n := 20) 0 dX5_take_19 rfl rfl ?_
      refine r_aload_n (n := 21) 1 dX5_take_20 rfl rfl ?_
      refine r_getR (n := 24) cls_4 0 fi_4_0 so_72 gw_228 dX5_take_21 rfl sr_72_0 (by decide) ?_
      refine r_iload_n (n := 25) 2 dX5_take_24 rfl rfl ?_
      obtain ⟨hi2, H⟩ := H
      refine r_aald (n := 26) (z := 5) (t0 := 6) (K := "OneMatch$Fire") sa_73 (by decide) (fun _ => rfl) hi2 dX5_take_25 rfl (plv_el hi2) (plv_nz hi2) ?_
      refine rs_cVv (n := 29) (rest := []) (As := [.ref _]) vm_X1_become gw_798 (fire_o (plv_mem hi1)) cq_1 dX5_take_26 rfl rfl (Nat.le_of_ble_eq_true rfl) rfl (CV.mono H (fun I3 X4 H => ?_))
      refine r_aload_n (n := 30) 0 dX5_take_29 rfl rfl ?_
      refine r_iload_n (n := 31) 3 dX5_take_30 rfl rfl ?_
      refine rs_cVv (n := 34) (rest := []) (As := [.int _]) vm_X1_bring gw_831 (fire_o (plv_mem hi1)) cq_1 dX5_take_31 rfl rfl (Nat.le_of_ble_eq_true rfl) rfl (CV.mono H (fun I5 X6 H => ?_))
      refine r_aload_n (n := 35) 1 dX5_take_34 rfl rfl ?_
      refine rs_getI (n := 38) cls_4 3 fi_4_3 so_72 gw_231 dX5_take_35 rfl ?_
      refine r_iconst (n := 39) (v := 3) dX5_take_38 ki_3 rfl ?_
      refine r_icmp_ne (n := 42) (tgt := 50) dX5_take_39 (by decide) rfl (fun c => ?_) (fun c => ?_)
      · have H := H.1 c
        refine r_aload_n (n := 51) 0 dX5_take_50 rfl rfl ?_
        refine rs_cVv (n := 54) (rest := []) (As := []) vm_X1_pass gw_832 (fire_o (plv_mem hi1)) cq_1 dX5_take_51 rfl rfl (Nat.le_of_ble_eq_true rfl) rfl (CV.mono H (fun I7 X8 H => ?_))
        refine r_aload_n (n := 55) 1 dX5_take_54 rfl rfl ?_
        refine r_getR (n := 58) cls_4 1 fi_4_1 so_72 gw_229 dX5_take_55 rfl sr_72_1 (by decide) ?_
        refine r_iload_n (n := 59) 2 dX5_take_58 rfl rfl ?_
        refine r_iload_n (n := 60) 3 dX5_take_59 rfl rfl ?_
        obtain ⟨hi9, H⟩ := H
        have H := H _ rfl
        refine rs_iast (n := 61) sa_74 hi9 dX5_take_60 rfl ?_
        refine r_aload_n (n := 62) 1 dX5_take_61 rfl rfl ?_
        refine r_iload_n (n := 63) 2 dX5_take_62 rfl rfl ?_
        refine r_iconst (n := 64) (v := 1) dX5_take_63 ki_1 rfl ?_
        refine r_iadd (n := 65) dX5_take_64 rfl ?_
        refine rs_cVv (n := 68) (rest := []) (As := [.int _]) vm_X5_walk gw_799 so_72 cq_4 dX5_take_65 rfl rfl (Nat.le_of_ble_eq_true rfl) rfl (CV.mono H (fun I11 X12 H => ?_))
        exact rs_vret dX5_take_68 rfl H
      · have H := H.2 c
        refine r_aload_n (n := 43) 0 dX5_take_42 rfl rfl ?_
        refine rs_cVi (n := 46) (rest := []) (As := []) vm_X1_servesHour gw_813 (fire_o (plv_mem hi1)) cq_1 dX5_take_43 rfl rfl (Nat.le_of_ble_eq_true rfl) rfl (CI.mono H (fun r13 I14 X15 H => ?_))
        refine r_if_ne (n := 49) (tgt := 50) dX5_take_46 (by decide) rfl (fun c => ?_) (fun c => ?_)
        · have H := H.1 c
          refine r_aload_n (n := 51) 0 dX5_take_50 rfl rfl ?_
          refine rs_cVv (n := 54) (rest := []) (As := []) vm_X1_pass gw_832 (fire_o (plv_mem hi1)) cq_1 dX5_take_51 rfl rfl (Nat.le_of_ble_eq_true rfl) rfl (CV.mono H (fun I16 X17 H => ?_))
          refine r_aload_n (n := 55) 1 dX5_take_54 rfl rfl ?_
          refine r_getR (n := 58) cls_4 1 fi_4_1 so_72 gw_229 dX5_take_55 rfl sr_72_1 (by decide) ?_
          refine r_iload_n (n := 59) 2 dX5_take_58 rfl rfl ?_
          refine r_iload_n (n := 60) 3 dX5_take_59 rfl rfl ?_
          obtain ⟨hi18, H⟩ := H
          have H := H _ rfl
          refine rs_iast (n := 61) sa_74 hi18 dX5_take_60 rfl ?_
          refine r_aload_n (n := 62) 1 dX5_take_61 rfl rfl ?_
          refine r_iload_n (n := 63) 2 dX5_take_62 rfl rfl ?_
          refine r_iconst (n := 64) (v := 1) dX5_take_63 ki_1 rfl ?_
          refine r_iadd (n := 65) dX5_take_64 rfl ?_
          refine rs_cVv (n := 68) (rest := []) (As := [.int _]) vm_X5_walk gw_799 so_72 cq_4 dX5_take_65 rfl rfl (Nat.le_of_ble_eq_true rfl) rfl (CV.mono H (fun I20 X21 H => ?_))
          exact rs_vret dX5_take_68 rfl H
        · have H := H.2 c
          exact rs_vret dX5_take_49 rfl H
    · have H := H.2 c
      exact rs_vret dX5_take_9 rfl H
set_option maxRecDepth 20000 in
theorem en_X5_isOver {g : OG} {d : Nat} {I : IT} {X : XT} {K : Int32 → IT → XT → Prop}  
    (H : CI g d iX5_isFound [rf g 72] I X (fun r1 I2 X3 =>
        (r1 = 0 →
          K 0 I2 X3) ∧
        (¬ r1 = 0 →
          ((I2 72 3) = 1 →
            K 1 I2 X3) ∧
          (¬ (I2 72 3) = 1 →
            (¬ (I2 72 3) = 3 →
              K 0 I2 X3) ∧
            ((I2 72 3) = 3 →
              K 1 I2 X3))))) : CI g (d + 1) iX5_isOver [rf g 72] I X K := by
  refine ocall_of (by decide) (Nat.le_of_ble_eq_true rfl) ?_
  show SR g (d + 1) iX5_isOver 0 [(0, rf g 72)] I X (qI K)
  refine r_aload_n (n := 1) 0 dX5_isOver_0 rfl rfl ?_
  refine rs_cVi (n := 4) (rest := []) (As := []) vm_X5_isFound gw_822 so_72 cq_4 dX5_isOver_1 rfl rfl (Nat.le_of_ble_eq_true rfl) rfl (CI.mono H (fun r1 I2 X3 H => ?_))
  refine r_if_eq (n := 7) (tgt := 27) dX5_isOver_4 (by decide) rfl (fun c => ?_) (fun c => ?_)
  · have H := H.1 c
    refine r_iconst (n := 28) (v := 0) dX5_isOver_27 ki_0 rfl ?_
    exact rs_zret dX5_isOver_28 rfl (by decide) H
  · have H := H.2 c
    refine r_aload_n (n := 8) 0 dX5_isOver_7 rfl rfl ?_
    refine rs_getI (n := 11) cls_4 3 fi_4_3 so_72 gw_231 dX5_isOver_8 rfl ?_
    refine r_iconst (n := 12) (v := 1) dX5_isOver_11 ki_1 rfl ?_
    refine r_icmp_eq (n := 15) (tgt := 23) dX5_isOver_12 (by decide) rfl (fun c => ?_) (fun c => ?_)
    · have H := H.1 c
      refine r_iconst (n := 24) (v := 1) dX5_isOver_23 ki_1 rfl ?_
      refine r_goto (n := 28) dX5_isOver_24 (by decide) ?_
      exact rs_zret dX5_isOver_28 rfl (by decide) H
    · have H := H.2 c
      refine r_aload_n (n := 16) 0 dX5_isOver_15 rfl rfl ?_
      refine rs_getI (n := 19) cls_4 3 fi_4_3 so_72 gw_231 dX5_isOver_16 rfl ?_
      refine r_iconst (n := 20) (v := 3) dX5_isOver_19 ki_3 rfl ?_
      refine r_icmp_ne (n := 23) (tgt := 27) dX5_isOver_20 (by decide) rfl (fun c => ?_) (fun c => ?_)
      · have H := H.1 c
        refine r_iconst (n := 28) (v := 0) dX5_isOver_27 ki_0 rfl ?_
        exact rs_zret dX5_isOver_28 rfl (by decide) H
      · have H := H.2 c
        refine r_iconst (n := 24) (v := 1) dX5_isOver_23 ki_1 rfl ?_
        refine r_goto (n := 28) dX5_isOver_24 (by decide) ?_
        exact rs_zret dX5_isOver_28 rfl (by decide) H
set_option maxRecDepth 20000 in
theorem en_X5_weigh {g : OG} {d : Nat} {I : IT} {X : XT} {K : IT → XT → Prop} {p1 : Nat} (hp1 : p1 ∈ fireL)
    (H : ∀ I1 : IT, I1 = set2 I 72 7 ((I 72 7) + 1) →
      ∀ I2 : IT, I2 = set2 I1 72 9 ((I1 72 9) ||| (I1 p1 3)) →
      CI g d iX1_burns [rf g p1, .int (I2 72 4)] I2 X (fun r3 I4 X5 =>
        (r3 = 0 →
          ∀ I6 : IT, I6 = set2 I4 72 8 ((I2 72 8) + 0) →
          CI g d iX5_rankOf [rf g 72, rf g p1] I6 X5 (fun r7 I8 X9 =>
            (r7 ≤ (I8 72 6) →
              K I8 X9) ∧
            (¬ r7 ≤ (I8 72 6) →
              ∀ I10 : IT, I10 = set2 I8 72 6 r7 →
              ((¬ (0 : Int32) < 0 ∧ ¬ (0 : Int32) < 0 ∧ ¬ (4 : Int32) < 0) ∧ (0 : Int32).toNatClampNeg + (4 : Int32).toNatClampNeg ≤ 4 ∧ (0 : Int32).toNatClampNeg + (4 : Int32).toNatClampNeg ≤ 4) ∧
              ∀ I11 : IT, I11 = setRow I10 75 (va_cpy (I10 74) (I10 75) (0 : Int32).toNatClampNeg (0 : Int32).toNatClampNeg (4 : Int32).toNatClampNeg) →
              K I11 X9))) ∧
        (¬ r3 = 0 →
          ∀ I13 : IT, I13 = set2 I4 72 8 ((I2 72 8) + 1) →
          CI g d iX5_rankOf [rf g 72, rf g p1] I13 X5 (fun r14 I15 X16 =>
            (r14 ≤ (I15 72 6) →
              K I15 X16) ∧
            (¬ r14 ≤ (I15 72 6) →
              ∀ I17 : IT, I17 = set2 I15 72 6 r14 →
              ((¬ (0 : Int32) < 0 ∧ ¬ (0 : Int32) < 0 ∧ ¬ (4 : Int32) < 0) ∧ (0 : Int32).toNatClampNeg + (4 : Int32).toNatClampNeg ≤ 4 ∧ (0 : Int32).toNatClampNeg + (4 : Int32).toNatClampNeg ≤ 4) ∧
              ∀ I18 : IT, I18 = setRow I17 75 (va_cpy (I17 74) (I17 75) (0 : Int32).toNatClampNeg (0 : Int32).toNatClampNeg (4 : Int32).toNatClampNeg) →
              K I18 X16))))) : CV g (d + 1) iX5_weigh [rf g 72, rf g p1] I X K := by
  refine ocall_of (by decide) (Nat.le_of_ble_eq_true rfl) ?_
  show SR g (d + 1) iX5_weigh 0 [(0, rf g 72), (1, rf g p1)] I X (qV K)
  refine r_aload_n (n := 1) 0 dX5_weigh_0 rfl rfl ?_
  refine r_dup (n := 2) dX5_weigh_1 rfl rfl ?_
  refine rs_getI (n := 5) cls_4 7 fi_4_7 so_72 gw_237 dX5_weigh_2 rfl ?_
  refine r_iconst (n := 6) (v := 1) dX5_weigh_5 ki_1 rfl ?_
  refine r_iadd (n := 7) dX5_weigh_6 rfl ?_
  have H := H _ rfl
  refine rs_putI (n := 10) cls_4 7 fp_4_7 so_72 gw_237 dX5_weigh_7 rfl ?_
  refine r_aload_n (n := 11) 0 dX5_weigh_10 rfl rfl ?_
  refine r_dup (n := 12) dX5_weigh_11 rfl rfl ?_
  refine rs_getI (n := 15) cls_4 9 fi_4_9 so_72 gw_241 dX5_weigh_12 rfl ?_
  refine r_aload_n (n := 16) 1 dX5_weigh_15 rfl rfl ?_
  refine rs_getI (n := 19) cls_1 3 fi_1_3 (fire_o hp1) gw_167 dX5_weigh_16 rfl ?_
  refine r_ior (n := 20) dX5_weigh_19 rfl ?_
  have H := H _ rfl
  refine rs_putI (n := 23) cls_4 9 fp_4_9 so_72 gw_241 dX5_weigh_20 rfl ?_
  refine r_aload_n (n := 24) 0 dX5_weigh_23 rfl rfl ?_
  refine r_dup (n := 25) dX5_weigh_24 rfl rfl ?_
  refine rs_getI (n := 28) cls_4 8 fi_4_8 so_72 gw_239 dX5_weigh_25 rfl ?_
  refine r_aload_n (n := 29) 1 dX5_weigh_28 rfl rfl ?_
  refine r_aload_n (n := 30) 0 dX5_weigh_29 rfl rfl ?_
  refine rs_getI (n := 33) cls_4 4 fi_4_4 so_72 gw_232 dX5_weigh_30 rfl ?_
  refine rs_cVi (n := 36) (rest := [.int _, .ref _]) (As := [.int _]) vm_X1_burns gw_807 (fire_o hp1) cq_1 dX5_weigh_33 rfl rfl (Nat.le_of_ble_eq_true rfl) rfl (CI.mono H (fun r3 I4 X5 H => ?_))
  refine r_if_eq (n := 39) (tgt := 43) dX5_weigh_36 (by decide) rfl (fun c => ?_) (fun c => ?_)
  · have H := H.1 c
    refine r_iconst (n := 44) (v := 0) dX5_weigh_43 ki_0 rfl ?_
    refine r_iadd (n := 45) dX5_weigh_44 rfl ?_
    have H := H _ rfl
    refine rs_putI (n := 48) cls_4 8 fp_4_8 so_72 gw_239 dX5_weigh_45 rfl ?_
    refine r_aload_n (n := 49) 0 dX5_weigh_48 rfl rfl ?_
    refine r_aload_n (n := 50) 1 dX5_weigh_49 rfl rfl ?_
    refine rs_cVi (n := 53) (rest := []) (As := [.ref _]) vm_X5_rankOf gw_808 so_72 cq_4 dX5_weigh_50 rfl rfl (Nat.le_of_ble_eq_true rfl) rfl (CI.mono H (fun r7 I8 X9 H => ?_))
    refine r_istore_n (n := 54) (lv' := [(2, .int _), (0, .ref _), (1, .ref _)]) dX5_weigh_53 rfl (by decide) rfl rfl ?_
    refine r_iload_n (n := 55) 0 dX5_weigh_54 rfl rfl ?_
    refine r_aload_n (n := 56) 1 dX5_weigh_55 rfl rfl ?_
    refine rs_getI (n := 59) cls_4 6 fi_4_6 so_72 gw_235 dX5_weigh_56 rfl ?_
    refine r_icmp_le (n := 62) (tgt := 81) dX5_weigh_59 (by decide) rfl (fun c => ?_) (fun c => ?_)
    · have H := H.1 c
      exact rs_vret dX5_weigh_81 rfl H
    · have H := H.2 c
      refine r_aload_n (n := 63) 1 dX5_weigh_62 rfl rfl ?_
      refine r_iload_n (n := 64) 0 dX5_weigh_63 rfl rfl ?_
      have H := H _ rfl
      refine rs_putI (n := 67) cls_4 6 fp_4_6 so_72 gw_235 dX5_weigh_64 rfl ?_
      refine r_aload_n (n := 68) 1 dX5_weigh_67 rfl rfl ?_
      refine r_getR (n := 71) cls_4 1 fi_4_1 so_72 gw_229 dX5_weigh_68 rfl sr_72_1 (by decide) ?_
      refine r_iconst (n := 72) (v := 0) dX5_weigh_71 ki_0 rfl ?_
      refine r_aload_n (n := 73) 1 dX5_weigh_72 rfl rfl ?_
      refine r_getR (n := 76) cls_4 2 fi_4_2 so_72 gw_230 dX5_weigh_73 rfl sr_72_2 (by decide) ?_
      refine r_iconst (n := 77) (v := 0) dX5_weigh_76 ki_0 rfl ?_
      refine r_iconst (n := 78) (v := 4) dX5_weigh_77 ki_4 rfl ?_
      obtain ⟨hc12, H⟩ := H
      have H := H _ rfl
      refine rs_copy (n := 81) sa_74 sa_75 ⟨gw_817, gw_433, gw_432, gw_75⟩ hc12 (Nat.le_of_ble_eq_true rfl) dX5_weigh_78 rfl ?_
      exact rs_vret dX5_weigh_81 rfl H
  · have H := H.2 c
    refine r_iconst (n := 40) (v := 1) dX5_weigh_39 ki_1 rfl ?_
    refine r_goto (n := 44) dX5_weigh_40 (by decide) ?_
    refine r_iadd (n := 45) dX5_weigh_44 rfl ?_
    have H := H _ rfl
    refine rs_putI (n := 48) cls_4 8 fp_4_8 so_72 gw_239 dX5_weigh_45 rfl ?_
    refine r_aload_n (n := 49) 0 dX5_weigh_48 rfl rfl ?_
    refine r_aload_n (n := 50) 1 dX5_weigh_49 rfl rfl ?_
    refine rs_cVi (n := 53) (rest := []) (As := [.ref _]) vm_X5_rankOf gw_808 so_72 cq_4 dX5_weigh_50 rfl rfl (Nat.le_of_ble_eq_true rfl) rfl (CI.mono H (fun r14 I15 X16 H => ?_))
    refine r_istore_n (n := 54) (lv' := [(2, .int _), (0, .ref _), (1, .ref _)]) dX5_weigh_53 rfl (by decide) rfl rfl ?_
    refine r_iload_n (n := 55) 0 dX5_weigh_54 rfl rfl ?_
    refine r_aload_n (n := 56) 1 dX5_weigh_55 rfl rfl ?_
    refine rs_getI (n := 59) cls_4 6 fi_4_6 so_72 gw_235 dX5_weigh_56 rfl ?_
    refine r_icmp_le (n := 62) (tgt := 81) dX5_weigh_59 (by decide) rfl (fun c => ?_) (fun c => ?_)
    · have H := H.1 c
      exact rs_vret dX5_weigh_81 rfl H
    · have H := H.2 c
      refine r_aload_n (n := 63) 1 dX5_weigh_62 rfl rfl ?_
      refine r_iload_n (n := 64) 0 dX5_weigh_63 rfl rfl ?_
      have H := H _ rfl
      refine rs_putI (n := 67) cls_4 6 fp_4_6 so_72 gw_235 dX5_weigh_64 rfl ?_
      refine r_aload_n (n := 68) 1 dX5_weigh_67 rfl rfl ?_
      refine r_getR (n := 71) cls_4 1 fi_4_1 so_72 gw_229 dX5_weigh_68 rfl sr_72_1 (by decide) ?_
      refine r_iconst (n := 72) (v := 0) dX5_weigh_71 ki_0 rfl ?_
      refine r_aload_n (n := 73) 1 dX5_weigh_72 rfl rfl ?_
      refine r_getR (n := 76) cls_4 2 fi_4_2 so_72 gw_230 dX5_weigh_73 rfl sr_72_2 (by decide) ?_
      refine r_iconst (n := 77) (v := 0) dX5_weigh_76 ki_0 rfl ?_
      refine r_iconst (n := 78) (v := 4) dX5_weigh_77 ki_4 rfl ?_
      obtain ⟨hc19, H⟩ := H
      have H := H _ rfl
      refine rs_copy (n := 81) sa_74 sa_75 ⟨gw_817, gw_433, gw_432, gw_75⟩ hc19 (Nat.le_of_ble_eq_true rfl) dX5_weigh_78 rfl ?_
      exact rs_vret dX5_weigh_81 rfl H
set_option maxRecDepth 20000 in
theorem en_X5_rankOf {g : OG} {d : Nat} {I : IT} {X : XT} {K : Int32 → IT → XT → Prop} {p1 : Nat} (hp1 : p1 ∈ fireL)
    (H : ((I 72 3) = 1 →
        CI g d iX1_burns [rf g p1, .int (I 72 4)] I X (fun r2 I3 X4 =>
          (r2 = 0 →
            K ((-1)) I3 X4) ∧
          (¬ r2 = 0 →
            K 0 I3 X4))) ∧
      (¬ (I 72 3) = 1 →
        ((I 72 3) = 2 →
        CI g d iX1_alight [rf g p1] I X (fun r6 I7 X8 =>
          K r6 I7 X8)) ∧
      (¬ (I 72 3) = 2 →
        ((I 72 3) = 3 →
        CI g d iX1_servesHour [rf g p1] I X (fun r10 I11 X12 =>
          (r10 = 0 →
            K ((-1)) I11 X12) ∧
          (¬ r10 = 0 →
            K 0 I11 X12))) ∧
      (¬ (I 72 3) = 3 →
        K ((-1)) I X)))) : CI g (d + 1) iX5_rankOf [rf g 72, rf g p1] I X K := by
  refine ocall_of (by decide) (Nat.le_of_ble_eq_true rfl) ?_
  show SR g (d + 1) iX5_rankOf 0 [(0, rf g 72), (1, rf g p1)] I X (qI K)
  refine r_aload_n (n := 1) 0 dX5_rankOf_0 rfl rfl ?_
  refine rs_getI (n := 4) cls_4 3 fi_4_3 so_72 gw_231 dX5_rankOf_1 rfl ?_
  refine sw_split H (fun cs1 H => ?_) (fun cs1 H => ?_)
  · refine r_tcase (n := 32) (v := 1) (off := 28) dX5_rankOf_4 cs1 (by decide) (by decide) (by decide) ?_
    refine r_aload_n (n := 33) 1 dX5_rankOf_32 rfl rfl ?_
    refine r_aload_n (n := 34) 0 dX5_rankOf_33 rfl rfl ?_
    refine rs_getI (n := 37) cls_4 4 fi_4_4 so_72 gw_232 dX5_rankOf_34 rfl ?_
    refine rs_cVi (n := 40) (rest := []) (As := [.int _]) vm_X1_burns gw_807 (fire_o hp1) cq_1 dX5_rankOf_37 rfl rfl (Nat.le_of_ble_eq_true rfl) rfl (CI.mono H (fun r2 I3 X4 H => ?_))
    refine r_if_eq (n := 43) (tgt := 47) dX5_rankOf_40 (by decide) rfl (fun c => ?_) (fun c => ?_)
    · have H := H.1 c
      refine r_iconst (n := 48) (v := (-1)) dX5_rankOf_47 ki_m1 rfl ?_
      exact rs_iret dX5_rankOf_48 rfl H
    · have H := H.2 c
      refine r_iconst (n := 44) (v := 0) dX5_rankOf_43 ki_0 rfl ?_
      refine r_goto (n := 48) dX5_rankOf_44 (by decide) ?_
      exact rs_iret dX5_rankOf_48 rfl H
  · skip
    refine sw_split H (fun cs5 H => ?_) (fun cs5 H => ?_)
    · refine r_tcase (n := 49) (v := 2) (off := 45) dX5_rankOf_4 cs5 (by decide) (by decide) (by decide) ?_
      refine r_aload_n (n := 50) 1 dX5_rankOf_49 rfl rfl ?_
      refine rs_cVi (n := 53) (rest := []) (As := []) vm_X1_alight gw_812 (fire_o hp1) cq_1 dX5_rankOf_50 rfl rfl (Nat.le_of_ble_eq_true rfl) rfl (CI.mono H (fun r6 I7 X8 H => ?_))
      exact rs_iret dX5_rankOf_53 rfl H
    · skip
      refine sw_split H (fun cs9 H => ?_) (fun cs9 H => ?_)
      · refine r_tcase (n := 54) (v := 3) (off := 50) dX5_rankOf_4 cs9 (by decide) (by decide) (by decide) ?_
        refine r_aload_n (n := 55) 1 dX5_rankOf_54 rfl rfl ?_
        refine rs_cVi (n := 58) (rest := []) (As := []) vm_X1_servesHour gw_813 (fire_o hp1) cq_1 dX5_rankOf_55 rfl rfl (Nat.le_of_ble_eq_true rfl) rfl (CI.mono H (fun r10 I11 X12 H => ?_))
        refine r_if_eq (n := 61) (tgt := 65) dX5_rankOf_58 (by decide) rfl (fun c => ?_) (fun c => ?_)
        · have H := H.1 c
          refine r_iconst (n := 66) (v := (-1)) dX5_rankOf_65 ki_m1 rfl ?_
          exact rs_iret dX5_rankOf_66 rfl H
        · have H := H.2 c
          refine r_iconst (n := 62) (v := 0) dX5_rankOf_61 ki_0 rfl ?_
          refine r_goto (n := 66) dX5_rankOf_62 (by decide) ?_
          exact rs_iret dX5_rankOf_66 rfl H
      · skip
        refine r_tout (n := 67) dX5_rankOf_4 (by have e0 := lv_neT cs1 (a := 1) (by decide); have e1 := lv_neT cs5 (a := 2) (by decide); have e2 := lv_neT cs9 (a := 3) (by decide); omega) (by decide) ?_
        refine r_iconst (n := 68) (v := (-1)) dX5_rankOf_67 ki_m1 rfl ?_
        exact rs_iret dX5_rankOf_68 rfl H
set_option maxRecDepth 20000 in
theorem en_X6_read {g : OG} {d : Nat} {I : IT} {X : XT} {K : Int32 → IT → XT → Prop} {p1 : Nat} {p2 : Nat} {p3 : Nat} (hp1 : p1 ∈ textL) (hp2 : p2 ∈ laneL) (hp3 : p3 ∈ fireL)
    (H : CV g d iX3_clear [rf g p2] I X (fun I1 X2 =>
        CV g d iX1_clear [rf g p3] I1 X2 (fun I3 X4 =>
          CI g d iX6_skipBlanks [rf g p1, .int 0] I3 X4 (fun r5 I6 X7 =>
            CI g d iX9_get [rf g p1, .int r5] I6 X7 (fun r8 I9 X10 =>
              (r8 = 118 →
                CI g d iX6_readWinds [rf g p1, .int (r5 + 1), rf g p2] I9 X10 (fun r11 I12 X13 =>
                  CI g d iX3_hasWinds [rf g p2] I12 X13 (fun r14 I15 X16 =>
                    (¬ r14 = 0 →
                      CI g d iX6_skipBlanks [rf g p1, .int r11] I15 X16 (fun r17 I18 X19 =>
                        SR g (d + 1) iX6_read 61 [(1, rf g p1), (2, rf g p2), (3, rf g p3), (4, .int r17), (5, .int 0)] I18 X19 (qI K))) ∧
                    (r14 = 0 →
                      K r11 I15 X16)))) ∧
              (¬ r8 = 118 →
                K r5 I9 X10)))))) : CI g (d + 1) iX6_read [rf g 61, rf g p1, rf g p2, rf g p3] I X K := by
  refine ocall_of (by decide) (Nat.le_of_ble_eq_true rfl) ?_
  show SR g (d + 1) iX6_read 0 [(0, rf g 61), (1, rf g p1), (2, rf g p2), (3, rf g p3)] I X (qI K)
  refine r_aload_n (n := 1) 2 dX6_read_0 rfl rfl ?_
  refine rs_cVv (n := 4) (rest := []) (As := []) vm_X3_clear gw_482 (lane_o hp2) cq_2 dX6_read_1 rfl rfl (Nat.le_of_ble_eq_true rfl) rfl (CV.mono H (fun I1 X2 H => ?_))
  refine r_aload_n (n := 5) 3 dX6_read_4 rfl rfl ?_
  refine rs_cVv (n := 8) (rest := []) (As := []) vm_X1_clear gw_486 (fire_o hp3) cq_1 dX6_read_5 rfl rfl (Nat.le_of_ble_eq_true rfl) rfl (CV.mono H (fun I3 X4 H => ?_))
  refine r_aload_n (n := 9) 1 dX6_read_8 rfl rfl ?_
  refine r_iconst (n := 10) (v := 0) dX6_read_9 ki_0 rfl ?_
  refine rs_cSi (n := 13) (rest := []) (As := [.ref _, .int _]) sm_X6_skipBlanks gw_490 dX6_read_10 rfl rfl (Nat.le_of_ble_eq_true rfl) rfl (CI.mono H (fun r5 I6 X7 H => ?_))
  refine r_istore (n := 15) (lv' := [(4, .int _), (0, .ref _), (1, .ref _), (2, .ref _), (3, .ref _)]) dX6_read_13 (by decide) rfl rfl ?_
  refine r_aload_n (n := 16) 2 dX6_read_15 rfl rfl ?_
  refine r_iload (n := 18) 0 dX6_read_16 rfl rfl ?_
  refine rs_cVi (n := 21) (rest := []) (As := [.int _]) vm_X9_get gw_493 (text_o hp1) cq_8 dX6_read_18 rfl rfl (Nat.le_of_ble_eq_true rfl) rfl (CI.mono H (fun r8 I9 X10 H => ?_))
  refine r_bipush (n := 23) (v := 118) dX6_read_21 kb_118 rfl ?_
  refine r_icmp_eq (n := 26) (tgt := 29) dX6_read_23 (by decide) rfl (fun c => ?_) (fun c => ?_)
  · have H := H.1 c
    refine r_aload_n (n := 30) 2 dX6_read_29 rfl rfl ?_
    refine r_iload (n := 32) 0 dX6_read_30 rfl rfl ?_
    refine r_iconst (n := 33) (v := 1) dX6_read_32 ki_1 rfl ?_
    refine r_iadd (n := 34) dX6_read_33 rfl ?_
    refine r_aload_n (n := 35) 3 dX6_read_34 rfl rfl ?_
    refine rs_cSi (n := 38) (rest := []) (As := [.ref _, .int _, .ref _]) sm_X6_readWinds gw_494 dX6_read_35 rfl rfl (Nat.le_of_ble_eq_true rfl) rfl (CI.mono H (fun r11 I12 X13 H => ?_))
    refine r_istore (n := 40) (lv' := [(4, .int _), (0, .ref _), (1, .ref _), (2, .ref _), (3, .ref _)]) dX6_read_38 (by decide) rfl rfl ?_
    refine r_aload_n (n := 41) 3 dX6_read_40 rfl rfl ?_
    refine rs_cVi (n := 44) (rest := []) (As := []) vm_X3_hasWinds gw_509 (lane_o hp2) cq_2 dX6_read_41 rfl rfl (Nat.le_of_ble_eq_true rfl) rfl (CI.mono H (fun r14 I15 X16 H => ?_))
    refine r_if_ne (n := 47) (tgt := 50) dX6_read_44 (by decide) rfl (fun c => ?_) (fun c => ?_)
    · have H := H.1 c
      refine r_aload_n (n := 51) 2 dX6_read_50 rfl rfl ?_
      refine r_iload (n := 53) 0 dX6_read_51 rfl rfl ?_
      refine rs_cSi (n := 56) (rest := []) (As := [.ref _, .int _]) sm_X6_skipBlanks gw_490 dX6_read_53 rfl rfl (Nat.le_of_ble_eq_true rfl) rfl (CI.mono H (fun r17 I18 X19 H => ?_))
      refine r_istore (n := 58) (lv' := [(4, .int _), (0, .ref _), (1, .ref _), (2, .ref _), (3, .ref _)]) dX6_read_56 (by decide) rfl rfl ?_
      refine r_iconst (n := 59) (v := 0) dX6_read_58 ki_0 rfl ?_
      refine r_istore (n := 61) (lv' := [(5, .int _), (4, .int _), (0, .ref _), (1, .ref _), (2, .ref _), (3, .ref _)]) dX6_read_59 (by decide) rfl rfl ?_
      exact r_sub [3, 4, 5, 1, 0] rfl H
    · have H := H.2 c
      refine r_iload (n := 49) 0 dX6_read_47 rfl rfl ?_
      exact rs_iret dX6_read_49 rfl H
  · have H := H.2 c
    refine r_iload (n := 28) 0 dX6_read_26 rfl rfl ?_
    exact rs_iret dX6_read_28 rfl H
set_option maxRecDepth 20000 in
theorem rg_X6_read_61 {g : OG} {d : Nat} {I : IT} {X : XT} {K : Int32 → IT → XT → Prop} {p1 : Nat} {p2 : Nat} {p3 : Nat} {l4 : Int32} {l5 : Int32} (hp1 : p1 ∈ textL) (hp2 : p2 ∈ laneL) (hp3 : p3 ∈ fireL)
    (H : (5 ≤ l5 →
        CI g d iX9_has [rf g p1, .int l4] I X (fun r1 I2 X3 =>
          (¬ r1 = 0 →
            K l4 I2 X3) ∧
          (r1 = 0 →
            CI g d iX3_isEmpty [rf g p2] I2 X3 (fun r4 I5 X6 =>
              (r4 = 0 →
                K ((-9)) I5 X6) ∧
              (¬ r4 = 0 →
                K l4 I5 X6))))) ∧
      (¬ 5 ≤ l5 →
        CI g d iX9_has [rf g p1, .int l4] I X (fun r7 I8 X9 =>
          (r7 = 0 →
            CI g d iX9_has [rf g p1, .int l4] I8 X9 (fun r10 I11 X12 =>
              (¬ r10 = 0 →
                K l4 I11 X12) ∧
              (r10 = 0 →
                CI g d iX3_isEmpty [rf g p2] I11 X12 (fun r13 I14 X15 =>
                  (r13 = 0 →
                    K ((-9)) I14 X15) ∧
                  (¬ r13 = 0 →
                    K l4 I14 X15))))) ∧
          (¬ r7 = 0 →
            CI g d iX6_faultOfHouse [rf g p1, .int l4] I8 X9 (fun r16 I17 X18 =>
              (r16 = ((-9)) →
                CV g d iX6_addHouse [rf g p1, .int l4, rf g p2, rf g p3] I17 X18 (fun I19 X20 =>
                  CI g d iX6_skipBlanks [rf g p1, .int (l4 + 4)] I19 X20 (fun r21 I22 X23 =>
                    ∀ x24 : Int32, x24 = l5 + 1 →
                    SR g (d + 1) iX6_read 61 [(1, rf g p1), (2, rf g p2), (3, rf g p3), (4, .int r21), (5, .int x24)] I22 X23 (qI K)))) ∧
              (¬ r16 = ((-9)) →
                K r16 I17 X18)))))) : SR g (d + 1) iX6_read 61 [(1, rf g p1), (2, rf g p2), (3, rf g p3), (4, .int l4), (5, .int l5)] I X (qI K) := by
  refine r_iload (n := 63) 4 dX6_read_61 rfl rfl ?_
  refine r_iconst (n := 64) (v := 5) dX6_read_63 ki_5 rfl ?_
  refine r_icmp_ge (n := 67) (tgt := 118) dX6_read_64 (by decide) rfl (fun c => ?_) (fun c => ?_)
  · have H := H.1 c
    refine r_aload_n (n := 119) 0 dX6_read_118 rfl rfl ?_
    refine r_iload (n := 121) 3 dX6_read_119 rfl rfl ?_
    refine rs_cVi (n := 124) (rest := []) (As := [.int _]) vm_X9_has gw_513 (text_o hp1) cq_8 dX6_read_121 rfl rfl (Nat.le_of_ble_eq_true rfl) rfl (CI.mono H (fun r1 I2 X3 H => ?_))
    refine r_if_ne (n := 127) (tgt := 134) dX6_read_124 (by decide) rfl (fun c => ?_) (fun c => ?_)
    · have H := H.1 c
      refine r_iload (n := 136) 3 dX6_read_134 rfl rfl ?_
      refine r_goto (n := 141) dX6_read_136 (by decide) ?_
      exact rs_iret dX6_read_141 rfl H
    · have H := H.2 c
      refine r_aload_n (n := 128) 1 dX6_read_127 rfl rfl ?_
      refine rs_cVi (n := 131) (rest := []) (As := []) vm_X3_isEmpty gw_535 (lane_o hp2) cq_2 dX6_read_128 rfl rfl (Nat.le_of_ble_eq_true rfl) rfl (CI.mono H (fun r4 I5 X6 H => ?_))
      refine r_if_eq (n := 134) (tgt := 139) dX6_read_131 (by decide) rfl (fun c => ?_) (fun c => ?_)
      · have H := H.1 c
        refine r_bipush (n := 141) (v := (-9)) dX6_read_139 kb_m9 rfl ?_
        exact rs_iret dX6_read_141 rfl H
      · have H := H.2 c
        refine r_iload (n := 136) 3 dX6_read_134 rfl rfl ?_
        refine r_goto (n := 141) dX6_read_136 (by decide) ?_
        exact rs_iret dX6_read_141 rfl H
  · have H := H.2 c
    refine r_aload_n (n := 68) 0 dX6_read_67 rfl rfl ?_
    refine r_iload (n := 70) 3 dX6_read_68 rfl rfl ?_
    refine rs_cVi (n := 73) (rest := []) (As := [.int _]) vm_X9_has gw_513 (text_o hp1) cq_8 dX6_read_70 rfl rfl (Nat.le_of_ble_eq_true rfl) rfl (CI.mono H (fun r7 I8 X9 H => ?_))
    refine r_if_eq (n := 76) (tgt := 118) dX6_read_73 (by decide) rfl (fun c => ?_) (fun c => ?_)
    · have H := H.1 c
      refine r_aload_n (n := 119) 0 dX6_read_118 rfl rfl ?_
      refine r_iload (n := 121) 3 dX6_read_119 rfl rfl ?_
      refine rs_cVi (n := 124) (rest := []) (As := [.int _]) vm_X9_has gw_513 (text_o hp1) cq_8 dX6_read_121 rfl rfl (Nat.le_of_ble_eq_true rfl) rfl (CI.mono H (fun r10 I11 X12 H => ?_))
      refine r_if_ne (n := 127) (tgt := 134) dX6_read_124 (by decide) rfl (fun c => ?_) (fun c => ?_)
      · have H := H.1 c
        refine r_iload (n := 136) 3 dX6_read_134 rfl rfl ?_
        refine r_goto (n := 141) dX6_read_136 (by decide) ?_
        exact rs_iret dX6_read_141 rfl H
      · have H := H.2 c
        refine r_aload_n (n := 128) 1 dX6_read_127 rfl rfl ?_
        refine rs_cVi (n := 131) (rest := []) (As := []) vm_X3_isEmpty gw_535 (lane_o hp2) cq_2 dX6_read_128 rfl rfl (Nat.le_of_ble_eq_true rfl) rfl (CI.mono H (fun r13 I14 X15 H => ?_))
        refine r_if_eq (n := 134) (tgt := 139) dX6_read_131 (by decide) rfl (fun c => ?_) (fun c => ?_)
        · have H := H.1 c
          refine r_bipush (n := 141) (v := (-9)) dX6_read_139 kb_m9 rfl ?_
          exact rs_iret dX6_read_141 rfl H
        · have H := H.2 c
          refine r_iload (n := 136) 3 dX6_read_134 rfl rfl ?_
          refine r_goto (n := 141) dX6_read_136 (by decide) ?_
          exact rs_iret dX6_read_141 rfl H
    · have H := H.2 c
      refine r_aload_n (n := 77) 0 dX6_read_76 rfl rfl ?_
      refine r_iload (n := 79) 3 dX6_read_77 rfl rfl ?_
      refine rs_cSi (n := 82) (rest := []) (As := [.ref _, .int _]) sm_X6_faultOfHouse gw_514 dX6_read_79 rfl rfl (Nat.le_of_ble_eq_true rfl) rfl (CI.mono H (fun r16 I17 X18 H => ?_))
      refine r_istore (n := 84) (lv' := [(6, .int _), (1, .ref _), (2, .ref _), (3, .ref _), (4, .int _), (5, .int _)]) dX6_read_82 (by decide) rfl rfl ?_
      refine r_iload (n := 86) 0 dX6_read_84 rfl rfl ?_
      refine r_bipush (n := 88) (v := (-9)) dX6_read_86 kb_m9 rfl ?_
      refine r_icmp_eq (n := 91) (tgt := 94) dX6_read_88 (by decide) rfl (fun c => ?_) (fun c => ?_)
      · have H := H.1 c
        refine r_aload_n (n := 95) 1 dX6_read_94 rfl rfl ?_
        refine r_iload (n := 97) 4 dX6_read_95 rfl rfl ?_
        refine r_aload_n (n := 98) 2 dX6_read_97 rfl rfl ?_
        refine r_aload_n (n := 99) 3 dX6_read_98 rfl rfl ?_
        refine rs_cSv (n := 102) (rest := []) (As := [.ref _, .int _, .ref _, .ref _]) sm_X6_addHouse gw_520 dX6_read_99 rfl rfl (Nat.le_of_ble_eq_true rfl) rfl (CV.mono H (fun I19 X20 H => ?_))
        refine r_aload_n (n := 103) 1 dX6_read_102 rfl rfl ?_
        refine r_iload (n := 105) 4 dX6_read_103 rfl rfl ?_
        refine r_iconst (n := 106) (v := 4) dX6_read_105 ki_4 rfl ?_
        refine r_iadd (n := 107) dX6_read_106 rfl ?_
        refine rs_cSi (n := 110) (rest := []) (As := [.ref _, .int _]) sm_X6_skipBlanks gw_490 dX6_read_107 rfl rfl (Nat.le_of_ble_eq_true rfl) rfl (CI.mono H (fun r21 I22 X23 H => ?_))
        refine r_istore (n := 112) (lv' := [(4, .int _), (6, .int _), (1, .ref _), (2, .ref _), (3, .ref _), (5, .int _)]) dX6_read_110 (by decide) rfl rfl ?_
        have H := H _ rfl
        refine r_iinc (n := 115) (lv' := [(5, .int _), (4, .int _), (6, .int _), (1, .ref _), (2, .ref _), (3, .ref _)]) 5 dX6_read_112 rfl rfl (by decide) rfl rfl ?_
        refine r_goto (n := 61) dX6_read_115 (by decide) ?_
        exact r_sub [3, 4, 5, 1, 0] rfl H
      · have H := H.2 c
        refine r_iload (n := 93) 0 dX6_read_91 rfl rfl ?_
        exact rs_iret dX6_read_93 rfl H
set_option maxRecDepth 20000 in
theorem en_X6_skipBlanks {g : OG} {d : Nat} {I : IT} {X : XT} {K : Int32 → IT → XT → Prop} {p0 : Nat} {l1 : Int32} (hp0 : p0 ∈ textL)
    (H : SR g (d + 1) iX6_skipBlanks 2 [(0, rf g p0), (2, .int l1)] I X (qI K)) : CI g (d + 1) iX6_skipBlanks [rf g p0, .int l1] I X K := by
  refine ocall_of (by decide) (Nat.le_of_ble_eq_true rfl) ?_
  show SR g (d + 1) iX6_skipBlanks 0 [(0, rf g p0), (1, .int l1)] I X (qI K)
  refine r_iload_n (n := 1) 1 dX6_skipBlanks_0 rfl rfl ?_
  refine r_istore_n (n := 2) (lv' := [(2, .int _), (0, .ref _), (1, .int _)]) dX6_skipBlanks_1 rfl (by decide) rfl rfl ?_
  exact r_sub [1, 0] rfl H
set_option maxRecDepth 20000 in
theorem rg_X6_skipBlanks_2 {g : OG} {d : Nat} {I : IT} {X : XT} {K : Int32 → IT → XT → Prop} {p0 : Nat} {l2 : Int32} (hp0 : p0 ∈ textL)
    (H : ((I p0 1) ≤ l2 →
        K l2 I X) ∧
      (¬ (I p0 1) ≤ l2 →
        CI g d iX9_get [rf g p0, .int l2] I X (fun r1 I2 X3 =>
          (¬ r1 = 32 →
            K l2 I2 X3) ∧
          (r1 = 32 →
            ∀ x4 : Int32, x4 = l2 + 1 →
            SR g (d + 1) iX6_skipBlanks 2 [(0, rf g p0), (2, .int x4)] I2 X3 (qI K))))) : SR g (d + 1) iX6_skipBlanks 2 [(0, rf g p0), (2, .int l2)] I X (qI K) := by
  refine r_iload_n (n := 3) 1 dX6_skipBlanks_2 rfl rfl ?_
  refine r_aload_n (n := 4) 0 dX6_skipBlanks_3 rfl rfl ?_
  refine rs_getI (n := 7) cls_8 1 fi_8_1 (text_o hp0) gw_115 dX6_skipBlanks_4 rfl ?_
  refine r_icmp_ge (n := 10) (tgt := 26) dX6_skipBlanks_7 (by decide) rfl (fun c => ?_) (fun c => ?_)
  · have H := H.1 c
    refine r_iload_n (n := 27) 1 dX6_skipBlanks_26 rfl rfl ?_
    exact rs_iret dX6_skipBlanks_27 rfl H
  · have H := H.2 c
    refine r_aload_n (n := 11) 0 dX6_skipBlanks_10 rfl rfl ?_
    refine r_iload_n (n := 12) 1 dX6_skipBlanks_11 rfl rfl ?_
    refine rs_cVi (n := 15) (rest := []) (As := [.int _]) vm_X9_get gw_493 (text_o hp0) cq_8 dX6_skipBlanks_12 rfl rfl (Nat.le_of_ble_eq_true rfl) rfl (CI.mono H (fun r1 I2 X3 H => ?_))
    refine r_bipush (n := 17) (v := 32) dX6_skipBlanks_15 kb_32 rfl ?_
    refine r_icmp_ne (n := 20) (tgt := 26) dX6_skipBlanks_17 (by decide) rfl (fun c => ?_) (fun c => ?_)
    · have H := H.1 c
      refine r_iload_n (n := 27) 1 dX6_skipBlanks_26 rfl rfl ?_
      exact rs_iret dX6_skipBlanks_27 rfl H
    · have H := H.2 c
      have H := H _ rfl
      refine r_iinc (n := 23) (lv' := [(2, .int _), (0, .ref _)]) 1 dX6_skipBlanks_20 rfl rfl (by decide) rfl rfl ?_
      refine r_goto (n := 2) dX6_skipBlanks_23 (by decide) ?_
      exact r_sub [1, 0] rfl H
set_option maxRecDepth 20000 in
theorem en_X6_readWinds {g : OG} {d : Nat} {I : IT} {X : XT} {K : Int32 → IT → XT → Prop} {p0 : Nat} {l1 : Int32} {p2 : Nat} (hp0 : p0 ∈ textL) (hp2 : p2 ∈ laneL)
    (H : SR g (d + 1) iX6_readWinds 2 [(0, rf g p0), (2, rf g p2), (3, .int l1)] I X (qI K)) : CI g (d + 1) iX6_readWinds [rf g p0, .int l1, rf g p2] I X K := by
  refine ocall_of (by decide) (Nat.le_of_ble_eq_true rfl) ?_
  show SR g (d + 1) iX6_readWinds 0 [(0, rf g p0), (1, .int l1), (2, rf g p2)] I X (qI K)
  refine r_iload_n (n := 1) 1 dX6_readWinds_0 rfl rfl ?_
  refine r_istore_n (n := 2) (lv' := [(3, .int _), (0, .ref _), (1, .int _), (2, .ref _)]) dX6_readWinds_1 rfl (by decide) rfl rfl ?_
  exact r_sub [1, 3, 0] rfl H
set_option maxRecDepth 20000 in
theorem rg_X6_readWinds_2 {g : OG} {d : Nat} {I : IT} {X : XT} {K : Int32 → IT → XT → Prop} {p0 : Nat} {p2 : Nat} {l3 : Int32} (hp0 : p0 ∈ textL) (hp2 : p2 ∈ laneL)
    (H : ((I p0 1) ≤ l3 →
        K l3 I X) ∧
      (¬ (I p0 1) ≤ l3 →
        CI g d iX3_hasAllWinds [rf g p2] I X (fun r1 I2 X3 =>
          (¬ r1 = 0 →
            K l3 I2 X3) ∧
          (r1 = 0 →
            CI g d iX9_get [rf g p0, .int l3] I2 X3 (fun r4 I5 X6 =>
              CI g d iX6_isFigure [.int r4, .int 2] I5 X6 (fun r7 I8 X9 =>
                (r7 = 0 →
                  K l3 I8 X9) ∧
                (¬ r7 = 0 →
                  CI g d iX9_get [rf g p0, .int l3] I8 X9 (fun r10 I11 X12 =>
                    CV g d iX3_addWind [rf g p2, .int (r10 - 48)] I11 X12 (fun I13 X14 =>
                      ∀ x15 : Int32, x15 = l3 + 1 →
                      SR g (d + 1) iX6_readWinds 2 [(0, rf g p0), (2, rf g p2), (3, .int x15)] I13 X14 (qI K)))))))))) : SR g (d + 1) iX6_readWinds 2 [(0, rf g p0), (2, rf g p2), (3, .int l3)] I X (qI K) := by
  refine r_iload_n (n := 3) 2 dX6_readWinds_2 rfl rfl ?_
  refine r_aload_n (n := 4) 0 dX6_readWinds_3 rfl rfl ?_
  refine rs_getI (n := 7) cls_8 1 fi_8_1 (text_o hp0) gw_115 dX6_readWinds_4 rfl ?_
  refine r_icmp_ge (n := 10) (tgt := 47) dX6_readWinds_7 (by decide) rfl (fun c => ?_) (fun c => ?_)
  · have H := H.1 c
    refine r_iload_n (n := 48) 2 dX6_readWinds_47 rfl rfl ?_
    exact rs_iret dX6_readWinds_48 rfl H
  · have H := H.2 c
    refine r_aload_n (n := 11) 1 dX6_readWinds_10 rfl rfl ?_
    refine rs_cVi (n := 14) (rest := []) (As := []) vm_X3_hasAllWinds gw_497 (lane_o hp2) cq_2 dX6_readWinds_11 rfl rfl (Nat.le_of_ble_eq_true rfl) rfl (CI.mono H (fun r1 I2 X3 H => ?_))
    refine r_if_ne (n := 17) (tgt := 47) dX6_readWinds_14 (by decide) rfl (fun c => ?_) (fun c => ?_)
    · have H := H.1 c
      refine r_iload_n (n := 48) 2 dX6_readWinds_47 rfl rfl ?_
      exact rs_iret dX6_readWinds_48 rfl H
    · have H := H.2 c
      refine r_aload_n (n := 18) 0 dX6_readWinds_17 rfl rfl ?_
      refine r_iload_n (n := 19) 2 dX6_readWinds_18 rfl rfl ?_
      refine rs_cVi (n := 22) (rest := []) (As := [.int _]) vm_X9_get gw_493 (text_o hp0) cq_8 dX6_readWinds_19 rfl rfl (Nat.le_of_ble_eq_true rfl) rfl (CI.mono H (fun r4 I5 X6 H => ?_))
      refine r_iconst (n := 23) (v := 2) dX6_readWinds_22 ki_2 rfl ?_
      refine rs_cSi (n := 26) (rest := []) (As := [.int _, .int _]) sm_X6_isFigure gw_501 dX6_readWinds_23 rfl rfl (Nat.le_of_ble_eq_true rfl) rfl (CI.mono H (fun r7 I8 X9 H => ?_))
      refine r_if_eq (n := 29) (tgt := 47) dX6_readWinds_26 (by decide) rfl (fun c => ?_) (fun c => ?_)
      · have H := H.1 c
        refine r_iload_n (n := 48) 2 dX6_readWinds_47 rfl rfl ?_
        exact rs_iret dX6_readWinds_48 rfl H
      · have H := H.2 c
        refine r_aload_n (n := 30) 1 dX6_readWinds_29 rfl rfl ?_
        refine r_aload_n (n := 31) 0 dX6_readWinds_30 rfl rfl ?_
        refine r_iload_n (n := 32) 2 dX6_readWinds_31 rfl rfl ?_
        refine rs_cVi (n := 35) (rest := [.ref _]) (As := [.int _]) vm_X9_get gw_493 (text_o hp0) cq_8 dX6_readWinds_32 rfl rfl (Nat.le_of_ble_eq_true rfl) rfl (CI.mono H (fun r10 I11 X12 H => ?_))
        refine r_bipush (n := 37) (v := 48) dX6_readWinds_35 kb_48 rfl ?_
        refine r_isub (n := 38) dX6_readWinds_37 rfl ?_
        refine rs_cVv (n := 41) (rest := []) (As := [.int _]) vm_X3_addWind gw_504 (lane_o hp2) cq_2 dX6_readWinds_38 rfl rfl (Nat.le_of_ble_eq_true rfl) rfl (CV.mono H (fun I13 X14 H => ?_))
        have H := H _ rfl
        refine r_iinc (n := 44) (lv' := [(3, .int _), (0, .ref _), (2, .ref _)]) 2 dX6_readWinds_41 rfl rfl (by decide) rfl rfl ?_
        refine r_goto (n := 2) dX6_readWinds_44 (by decide) ?_
        exact r_sub [1, 2, 0] rfl H
set_option maxRecDepth 20000 in
theorem en_X6_faultOfHouse {g : OG} {d : Nat} {I : IT} {X : XT} {K : Int32 → IT → XT → Prop} {p0 : Nat} {l1 : Int32} (hp0 : p0 ∈ textL)
    (H : CI g d iX9_get [rf g p0, .int l1] I X (fun r1 I2 X3 =>
        CI g d iX2_byLetter [.int r1] I2 X3 (fun r4 I5 X6 =>
          (¬ r4 = ((-9)) →
            CI g d iX9_get [rf g p0, .int (l1 + 1)] I5 X6 (fun r7 I8 X9 =>
              CI g d iX6_isFigure [.int r7, .int 9] I8 X9 (fun r10 I11 X12 =>
                (¬ r10 = 0 →
                  CI g d iX9_get [rf g p0, .int (l1 + 2)] I11 X12 (fun r13 I14 X15 =>
                    CI g d iX6_isFigure [.int r13, .int 3] I14 X15 (fun r16 I17 X18 =>
                      (¬ r16 = 0 →
                        CI g d iX9_get [rf g p0, .int (l1 + 3)] I17 X18 (fun r19 I20 X21 =>
                          (r19 = 45 →
                            K ((-9)) I20 X21) ∧
                          (¬ r19 = 45 →
                            CI g d iX9_get [rf g p0, .int (l1 + 3)] I20 X21 (fun r22 I23 X24 =>
                              CI g d iX6_isFigure [.int r22, .int 9] I23 X24 (fun r25 I26 X27 =>
                                (¬ r25 = 0 →
                                  K ((-9)) I26 X27) ∧
                                (r25 = 0 →
                                  K (l1 + 3) I26 X27)))))) ∧
                      (r16 = 0 →
                        K (l1 + 2) I17 X18)))) ∧
                (r10 = 0 →
                  K (l1 + 1) I11 X12)))) ∧
          (r4 = ((-9)) →
            K l1 I5 X6)))) : CI g (d + 1) iX6_faultOfHouse [rf g p0, .int l1] I X K := by
  refine ocall_of (by decide) (Nat.le_of_ble_eq_true rfl) ?_
  show SR g (d + 1) iX6_faultOfHouse 0 [(0, rf g p0), (1, .int l1)] I X (qI K)
  refine r_aload_n (n := 1) 0 dX6_faultOfHouse_0 rfl rfl ?_
  refine r_iload_n (n := 2) 1 dX6_faultOfHouse_1 rfl rfl ?_
  refine rs_cVi (n := 5) (rest := []) (As := [.int _]) vm_X9_get gw_493 (text_o hp0) cq_8 dX6_faultOfHouse_2 rfl rfl (Nat.le_of_ble_eq_true rfl) rfl (CI.mono H (fun r1 I2 X3 H => ?_))
  refine rs_cSi (n := 8) (rest := []) (As := [.int _]) sm_X2_byLetter gw_517 dX6_faultOfHouse_5 rfl rfl (Nat.le_of_ble_eq_true rfl) rfl (CI.mono H (fun r4 I5 X6 H => ?_))
  refine r_bipush (n := 10) (v := (-9)) dX6_faultOfHouse_8 kb_m9 rfl ?_
  refine r_icmp_ne (n := 13) (tgt := 15) dX6_faultOfHouse_10 (by decide) rfl (fun c => ?_) (fun c => ?_)
  · have H := H.1 c
    refine r_aload_n (n := 16) 0 dX6_faultOfHouse_15 rfl rfl ?_
    refine r_iload_n (n := 17) 1 dX6_faultOfHouse_16 rfl rfl ?_
    refine r_iconst (n := 18) (v := 1) dX6_faultOfHouse_17 ki_1 rfl ?_
    refine r_iadd (n := 19) dX6_faultOfHouse_18 rfl ?_
    refine rs_cVi (n := 22) (rest := []) (As := [.int _]) vm_X9_get gw_493 (text_o hp0) cq_8 dX6_faultOfHouse_19 rfl rfl (Nat.le_of_ble_eq_true rfl) rfl (CI.mono H (fun r7 I8 X9 H => ?_))
    refine r_bipush (n := 24) (v := 9) dX6_faultOfHouse_22 kb_9 rfl ?_
    refine rs_cSi (n := 27) (rest := []) (As := [.int _, .int _]) sm_X6_isFigure gw_501 dX6_faultOfHouse_24 rfl rfl (Nat.le_of_ble_eq_true rfl) rfl (CI.mono H (fun r10 I11 X12 H => ?_))
    refine r_if_ne (n := 30) (tgt := 34) dX6_faultOfHouse_27 (by decide) rfl (fun c => ?_) (fun c => ?_)
    · have H := H.1 c
      refine r_aload_n (n := 35) 0 dX6_faultOfHouse_34 rfl rfl ?_
      refine r_iload_n (n := 36) 1 dX6_faultOfHouse_35 rfl rfl ?_
      refine r_iconst (n := 37) (v := 2) dX6_faultOfHouse_36 ki_2 rfl ?_
      refine r_iadd (n := 38) dX6_faultOfHouse_37 rfl ?_
      refine rs_cVi (n := 41) (rest := []) (As := [.int _]) vm_X9_get gw_493 (text_o hp0) cq_8 dX6_faultOfHouse_38 rfl rfl (Nat.le_of_ble_eq_true rfl) rfl (CI.mono H (fun r13 I14 X15 H => ?_))
      refine r_iconst (n := 42) (v := 3) dX6_faultOfHouse_41 ki_3 rfl ?_
      refine rs_cSi (n := 45) (rest := []) (As := [.int _, .int _]) sm_X6_isFigure gw_501 dX6_faultOfHouse_42 rfl rfl (Nat.le_of_ble_eq_true rfl) rfl (CI.mono H (fun r16 I17 X18 H => ?_))
      refine r_if_ne (n := 48) (tgt := 52) dX6_faultOfHouse_45 (by decide) rfl (fun c => ?_) (fun c => ?_)
      · have H := H.1 c
        refine r_aload_n (n := 53) 0 dX6_faultOfHouse_52 rfl rfl ?_
        refine r_iload_n (n := 54) 1 dX6_faultOfHouse_53 rfl rfl ?_
        refine r_iconst (n := 55) (v := 3) dX6_faultOfHouse_54 ki_3 rfl ?_
        refine r_iadd (n := 56) dX6_faultOfHouse_55 rfl ?_
        refine rs_cVi (n := 59) (rest := []) (As := [.int _]) vm_X9_get gw_493 (text_o hp0) cq_8 dX6_faultOfHouse_56 rfl rfl (Nat.le_of_ble_eq_true rfl) rfl (CI.mono H (fun r19 I20 X21 H => ?_))
        refine r_bipush (n := 61) (v := 45) dX6_faultOfHouse_59 kb_45 rfl ?_
        refine r_icmp_eq (n := 64) (tgt := 83) dX6_faultOfHouse_61 (by decide) rfl (fun c => ?_) (fun c => ?_)
        · have H := H.1 c
          refine r_bipush (n := 85) (v := (-9)) dX6_faultOfHouse_83 kb_m9 rfl ?_
          exact rs_iret dX6_faultOfHouse_85 rfl H
        · have H := H.2 c
          refine r_aload_n (n := 65) 0 dX6_faultOfHouse_64 rfl rfl ?_
          refine r_iload_n (n := 66) 1 dX6_faultOfHouse_65 rfl rfl ?_
          refine r_iconst (n := 67) (v := 3) dX6_faultOfHouse_66 ki_3 rfl ?_
          refine r_iadd (n := 68) dX6_faultOfHouse_67 rfl ?_
          refine rs_cVi (n := 71) (rest := []) (As := [.int _]) vm_X9_get gw_493 (text_o hp0) cq_8 dX6_faultOfHouse_68 rfl rfl (Nat.le_of_ble_eq_true rfl) rfl (CI.mono H (fun r22 I23 X24 H => ?_))
          refine r_bipush (n := 73) (v := 9) dX6_faultOfHouse_71 kb_9 rfl ?_
          refine rs_cSi (n := 76) (rest := []) (As := [.int _, .int _]) sm_X6_isFigure gw_501 dX6_faultOfHouse_73 rfl rfl (Nat.le_of_ble_eq_true rfl) rfl (CI.mono H (fun r25 I26 X27 H => ?_))
          refine r_if_ne (n := 79) (tgt := 83) dX6_faultOfHouse_76 (by decide) rfl (fun c => ?_) (fun c => ?_)
          · have H := H.1 c
            refine r_bipush (n := 85) (v := (-9)) dX6_faultOfHouse_83 kb_m9 rfl ?_
            exact rs_iret dX6_faultOfHouse_85 rfl H
          · have H := H.2 c
            refine r_iload_n (n := 80) 1 dX6_faultOfHouse_79 rfl rfl ?_
            refine r_iconst (n := 81) (v := 3) dX6_faultOfHouse_80 ki_3 rfl ?_
            refine r_iadd (n := 82) dX6_faultOfHouse_81 rfl ?_
            exact rs_iret dX6_faultOfHouse_82 rfl H
      · have H := H.2 c
        refine r_iload_n (n := 49) 1 dX6_faultOfHouse_48 rfl rfl ?_
        refine r_iconst (n := 50) (v := 2) dX6_faultOfHouse_49 ki_2 rfl ?_
        refine r_iadd (n := 51) dX6_faultOfHouse_50 rfl ?_
        exact rs_iret dX6_faultOfHouse_51 rfl H
    · have H := H.2 c
      refine r_iload_n (n := 31) 1 dX6_faultOfHouse_30 rfl rfl ?_
      refine r_iconst (n := 32) (v := 1) dX6_faultOfHouse_31 ki_1 rfl ?_
      refine r_iadd (n := 33) dX6_faultOfHouse_32 rfl ?_
      exact rs_iret dX6_faultOfHouse_33 rfl H
  · have H := H.2 c
    refine r_iload_n (n := 14) 1 dX6_faultOfHouse_13 rfl rfl ?_
    exact rs_iret dX6_faultOfHouse_14 rfl H
set_option maxRecDepth 20000 in
theorem en_X6_addHouse {g : OG} {d : Nat} {I : IT} {X : XT} {K : IT → XT → Prop} {p0 : Nat} {l1 : Int32} {p2 : Nat} {p3 : Nat} (hp0 : p0 ∈ textL) (hp2 : p2 ∈ laneL) (hp3 : p3 ∈ fireL)
    (H : CI g d iX9_get [rf g p0, .int (l1 + 3)] I X (fun r1 I2 X3 =>
        CI g d iX9_get [rf g p0, .int (l1 + 1)] I2 X3 (fun r4 I5 X6 =>
          CI g d iX9_get [rf g p0, .int (l1 + 2)] I5 X6 (fun r7 I8 X9 =>
            CV g d iX1_furnish [rf g p3, .int (I2 p2 4), .int (r4 - 48), .int (r7 - 48)] I8 X9 (fun I10 X11 =>
              CI g d iX9_get [rf g p0, .int l1] I10 X11 (fun r12 I13 X14 =>
                CI g d iX2_byLetter [.int r12] I13 X14 (fun r15 I16 X17 =>
                  (¬ r1 = 45 →
                    CV g d iX3_addHouse [rf g p2, .int r15, .int (r1 - 48)] I16 X17 (fun I18 X19 =>
                      K I18 X19)) ∧
                  (r1 = 45 →
                    CV g d iX3_addHouse [rf g p2, .int r15, .int ((-9))] I16 X17 (fun I20 X21 =>
                      K I20 X21))))))))) : CV g (d + 1) iX6_addHouse [rf g p0, .int l1, rf g p2, rf g p3] I X K := by
  refine ocall_of (by decide) (Nat.le_of_ble_eq_true rfl) ?_
  show SR g (d + 1) iX6_addHouse 0 [(0, rf g p0), (1, .int l1), (2, rf g p2), (3, rf g p3)] I X (qV K)
  refine r_aload_n (n := 1) 0 dX6_addHouse_0 rfl rfl ?_
  refine r_iload_n (n := 2) 1 dX6_addHouse_1 rfl rfl ?_
  refine r_iconst (n := 3) (v := 3) dX6_addHouse_2 ki_3 rfl ?_
  refine r_iadd (n := 4) dX6_addHouse_3 rfl ?_
  refine rs_cVi (n := 7) (rest := []) (As := [.int _]) vm_X9_get gw_493 (text_o hp0) cq_8 dX6_addHouse_4 rfl rfl (Nat.le_of_ble_eq_true rfl) rfl (CI.mono H (fun r1 I2 X3 H => ?_))
  refine r_istore (n := 9) (lv' := [(4, .int _), (0, .ref _), (1, .int _), (2, .ref _), (3, .ref _)]) dX6_addHouse_7 (by decide) rfl rfl ?_
  refine r_aload_n (n := 10) 4 dX6_addHouse_9 rfl rfl ?_
  refine r_aload_n (n := 11) 3 dX6_addHouse_10 rfl rfl ?_
  refine rs_getI (n := 14) cls_2 4 fi_2_4 (lane_o hp2) gw_136 dX6_addHouse_11 rfl ?_
  refine r_aload_n (n := 15) 1 dX6_addHouse_14 rfl rfl ?_
  refine r_iload_n (n := 16) 2 dX6_addHouse_15 rfl rfl ?_
  refine r_iconst (n := 17) (v := 1) dX6_addHouse_16 ki_1 rfl ?_
  refine r_iadd (n := 18) dX6_addHouse_17 rfl ?_
  refine rs_cVi (n := 21) (rest := [.int _, .ref _]) (As := [.int _]) vm_X9_get gw_493 (text_o hp0) cq_8 dX6_addHouse_18 rfl rfl (Nat.le_of_ble_eq_true rfl) rfl (CI.mono H (fun r4 I5 X6 H => ?_))
  refine r_bipush (n := 23) (v := 48) dX6_addHouse_21 kb_48 rfl ?_
  refine r_isub (n := 24) dX6_addHouse_23 rfl ?_
  refine r_aload_n (n := 25) 1 dX6_addHouse_24 rfl rfl ?_
  refine r_iload_n (n := 26) 2 dX6_addHouse_25 rfl rfl ?_
  refine r_iconst (n := 27) (v := 2) dX6_addHouse_26 ki_2 rfl ?_
  refine r_iadd (n := 28) dX6_addHouse_27 rfl ?_
  refine rs_cVi (n := 31) (rest := [.int _, .int _, .ref _]) (As := [.int _]) vm_X9_get gw_493 (text_o hp0) cq_8 dX6_addHouse_28 rfl rfl (Nat.le_of_ble_eq_true rfl) rfl (CI.mono H (fun r7 I8 X9 H => ?_))
  refine r_bipush (n := 33) (v := 48) dX6_addHouse_31 kb_48 rfl ?_
  refine r_isub (n := 34) dX6_addHouse_33 rfl ?_
  refine rs_cVv (n := 37) (rest := []) (As := [.int _, .int _, .int _]) vm_X1_furnish gw_523 (fire_o hp3) cq_1 dX6_addHouse_34 rfl rfl (Nat.le_of_ble_eq_true rfl) rfl (CV.mono H (fun I10 X11 H => ?_))
  refine r_aload_n (n := 38) 3 dX6_addHouse_37 rfl rfl ?_
  refine r_aload_n (n := 39) 1 dX6_addHouse_38 rfl rfl ?_
  refine r_iload_n (n := 40) 2 dX6_addHouse_39 rfl rfl ?_
  refine rs_cVi (n := 43) (rest := [.ref _]) (As := [.int _]) vm_X9_get gw_493 (text_o hp0) cq_8 dX6_addHouse_40 rfl rfl (Nat.le_of_ble_eq_true rfl) rfl (CI.mono H (fun r12 I13 X14 H => ?_))
  refine rs_cSi (n := 46) (rest := [.ref _]) (As := [.int _]) sm_X2_byLetter gw_517 dX6_addHouse_43 rfl rfl (Nat.le_of_ble_eq_true rfl) rfl (CI.mono H (fun r15 I16 X17 H => ?_))
  refine r_iload (n := 48) 0 dX6_addHouse_46 rfl rfl ?_
  refine r_bipush (n := 50) (v := 45) dX6_addHouse_48 kb_45 rfl ?_
  refine r_icmp_ne (n := 53) (tgt := 58) dX6_addHouse_50 (by decide) rfl (fun c => ?_) (fun c => ?_)
  · have H := H.1 c
    refine r_iload (n := 60) 0 dX6_addHouse_58 rfl rfl ?_
    refine r_bipush (n := 62) (v := 48) dX6_addHouse_60 kb_48 rfl ?_
    refine r_isub (n := 63) dX6_addHouse_62 rfl ?_
    refine rs_cVv (n := 66) (rest := []) (As := [.int _, .int _]) vm_X3_addHouse gw_527 (lane_o hp2) cq_2 dX6_addHouse_63 rfl rfl (Nat.le_of_ble_eq_true rfl) rfl (CV.mono H (fun I18 X19 H => ?_))
    exact rs_vret dX6_addHouse_66 rfl H
  · have H := H.2 c
    refine r_bipush (n := 55) (v := (-9)) dX6_addHouse_53 kb_m9 rfl ?_
    refine r_goto (n := 63) dX6_addHouse_55 (by decide) ?_
    refine rs_cVv (n := 66) (rest := []) (As := [.int _, .int _]) vm_X3_addHouse gw_527 (lane_o hp2) cq_2 dX6_addHouse_63 rfl rfl (Nat.le_of_ble_eq_true rfl) rfl (CV.mono H (fun I20 X21 H => ?_))
    exact rs_vret dX6_addHouse_66 rfl H
set_option maxRecDepth 20000 in
theorem en_X6_isFigure {g : OG} {d : Nat} {I : IT} {X : XT} {K : Int32 → IT → XT → Prop} {l0 : Int32} {l1 : Int32} 
    (H : (l0 < 48 →
        K 0 I X) ∧
      (¬ l0 < 48 →
        ((48 + l1) < l0 →
          K 0 I X) ∧
        (¬ (48 + l1) < l0 →
          K 1 I X))) : CI g (d + 1) iX6_isFigure [.int l0, .int l1] I X K := by
  refine ocall_of (by decide) (Nat.le_of_ble_eq_true rfl) ?_
  show SR g (d + 1) iX6_isFigure 0 [(0, .int l0), (1, .int l1)] I X (qI K)
  refine r_iload_n (n := 1) 0 dX6_isFigure_0 rfl rfl ?_
  refine r_bipush (n := 3) (v := 48) dX6_isFigure_1 kb_48 rfl ?_
  refine r_icmp_lt (n := 6) (tgt := 18) dX6_isFigure_3 (by decide) rfl (fun c => ?_) (fun c => ?_)
  · have H := H.1 c
    refine r_iconst (n := 19) (v := 0) dX6_isFigure_18 ki_0 rfl ?_
    exact rs_zret dX6_isFigure_19 rfl (by decide) H
  · have H := H.2 c
    refine r_iload_n (n := 7) 0 dX6_isFigure_6 rfl rfl ?_
    refine r_bipush (n := 9) (v := 48) dX6_isFigure_7 kb_48 rfl ?_
    refine r_iload_n (n := 10) 1 dX6_isFigure_9 rfl rfl ?_
    refine r_iadd (n := 11) dX6_isFigure_10 rfl ?_
    refine r_icmp_gt (n := 14) (tgt := 18) dX6_isFigure_11 (by decide) rfl (fun c => ?_) (fun c => ?_)
    · have H := H.1 c
      refine r_iconst (n := 19) (v := 0) dX6_isFigure_18 ki_0 rfl ?_
      exact rs_zret dX6_isFigure_19 rfl (by decide) H
    · have H := H.2 c
      refine r_iconst (n := 15) (v := 1) dX6_isFigure_14 ki_1 rfl ?_
      refine r_goto (n := 19) dX6_isFigure_15 (by decide) ?_
      exact rs_zret dX6_isFigure_19 rfl (by decide) H
set_option maxRecDepth 20000 in
theorem en_X7_isThere {g : OG} {d : Nat} {I : IT} {X : XT} {K : Int32 → IT → XT → Prop} {a : Nat} (ha : a ∈ rowL)
    (H : ((I a 1) < 0 →
        K 0 I X) ∧
      (¬ (I a 1) < 0 →
        K 1 I X)) : CI g (d + 1) iX7_isThere [rf g a] I X K := by
  refine ocall_of (by decide) (Nat.le_of_ble_eq_true rfl) ?_
  show SR g (d + 1) iX7_isThere 0 [(0, rf g a)] I X (qI K)
  refine r_aload_n (n := 1) 0 dX7_isThere_0 rfl rfl ?_
  refine rs_getI (n := 4) cls_6 1 fi_6_1 (row_o ha) gw_96 dX7_isThere_1 rfl ?_
  refine r_if_lt (n := 7) (tgt := 11) dX7_isThere_4 (by decide) rfl (fun c => ?_) (fun c => ?_)
  · have H := H.1 c
    refine r_iconst (n := 12) (v := 0) dX7_isThere_11 ki_0 rfl ?_
    exact rs_zret dX7_isThere_12 rfl (by decide) H
  · have H := H.2 c
    refine r_iconst (n := 8) (v := 1) dX7_isThere_7 ki_1 rfl ?_
    refine r_goto (n := 12) dX7_isThere_8 (by decide) ?_
    exact rs_zret dX7_isThere_12 rfl (by decide) H
set_option maxRecDepth 20000 in
theorem en_X7_has {g : OG} {d : Nat} {I : IT} {X : XT} {K : Int32 → IT → XT → Prop} {a : Nat} {l1 : Int32} (ha : a ∈ rowL)
    (H : (l1 < 0 →
        K 0 I X) ∧
      (¬ l1 < 0 →
        ((I a 1) ≤ l1 →
          K 0 I X) ∧
        (¬ (I a 1) ≤ l1 →
          K 1 I X))) : CI g (d + 1) iX7_has [rf g a, .int l1] I X K := by
  refine ocall_of (by decide) (Nat.le_of_ble_eq_true rfl) ?_
  show SR g (d + 1) iX7_has 0 [(0, rf g a), (1, .int l1)] I X (qI K)
  refine r_iload_n (n := 1) 1 dX7_has_0 rfl rfl ?_
  refine r_if_lt (n := 4) (tgt := 16) dX7_has_1 (by decide) rfl (fun c => ?_) (fun c => ?_)
  · have H := H.1 c
    refine r_iconst (n := 17) (v := 0) dX7_has_16 ki_0 rfl ?_
    exact rs_zret dX7_has_17 rfl (by decide) H
  · have H := H.2 c
    refine r_iload_n (n := 5) 1 dX7_has_4 rfl rfl ?_
    refine r_aload_n (n := 6) 0 dX7_has_5 rfl rfl ?_
    refine rs_getI (n := 9) cls_6 1 fi_6_1 (row_o ha) gw_96 dX7_has_6 rfl ?_
    refine r_icmp_ge (n := 12) (tgt := 16) dX7_has_9 (by decide) rfl (fun c => ?_) (fun c => ?_)
    · have H := H.1 c
      refine r_iconst (n := 17) (v := 0) dX7_has_16 ki_0 rfl ?_
      exact rs_zret dX7_has_17 rfl (by decide) H
    · have H := H.2 c
      refine r_iconst (n := 13) (v := 1) dX7_has_12 ki_1 rfl ?_
      refine r_goto (n := 17) dX7_has_13 (by decide) ?_
      exact rs_zret dX7_has_17 rfl (by decide) H
set_option maxRecDepth 20000 in
theorem en_X7_hasSpan {g : OG} {d : Nat} {I : IT} {X : XT} {K : Int32 → IT → XT → Prop} {a : Nat} {l1 : Int32} {l2 : Int32} (ha : a ∈ rowL)
    (H : (l1 < 0 →
        K 0 I X) ∧
      (¬ l1 < 0 →
        (l2 < 0 →
          K 0 I X) ∧
        (¬ l2 < 0 →
          (((I a 1) - l2) < l1 →
            K 0 I X) ∧
          (¬ ((I a 1) - l2) < l1 →
            K 1 I X)))) : CI g (d + 1) iX7_hasSpan [rf g a, .int l1, .int l2] I X K := by
  refine ocall_of (by decide) (Nat.le_of_ble_eq_true rfl) ?_
  show SR g (d + 1) iX7_hasSpan 0 [(0, rf g a), (1, .int l1), (2, .int l2)] I X (qI K)
  refine r_iload_n (n := 1) 1 dX7_hasSpan_0 rfl rfl ?_
  refine r_if_lt (n := 4) (tgt := 22) dX7_hasSpan_1 (by decide) rfl (fun c => ?_) (fun c => ?_)
  · have H := H.1 c
    refine r_iconst (n := 23) (v := 0) dX7_hasSpan_22 ki_0 rfl ?_
    exact rs_zret dX7_hasSpan_23 rfl (by decide) H
  · have H := H.2 c
    refine r_iload_n (n := 5) 2 dX7_hasSpan_4 rfl rfl ?_
    refine r_if_lt (n := 8) (tgt := 22) dX7_hasSpan_5 (by decide) rfl (fun c => ?_) (fun c => ?_)
    · have H := H.1 c
      refine r_iconst (n := 23) (v := 0) dX7_hasSpan_22 ki_0 rfl ?_
      exact rs_zret dX7_hasSpan_23 rfl (by decide) H
    · have H := H.2 c
      refine r_iload_n (n := 9) 1 dX7_hasSpan_8 rfl rfl ?_
      refine r_aload_n (n := 10) 0 dX7_hasSpan_9 rfl rfl ?_
      refine rs_getI (n := 13) cls_6 1 fi_6_1 (row_o ha) gw_96 dX7_hasSpan_10 rfl ?_
      refine r_iload_n (n := 14) 2 dX7_hasSpan_13 rfl rfl ?_
      refine r_isub (n := 15) dX7_hasSpan_14 rfl ?_
      refine r_icmp_gt (n := 18) (tgt := 22) dX7_hasSpan_15 (by decide) rfl (fun c => ?_) (fun c => ?_)
      · have H := H.1 c
        refine r_iconst (n := 23) (v := 0) dX7_hasSpan_22 ki_0 rfl ?_
        exact rs_zret dX7_hasSpan_23 rfl (by decide) H
      · have H := H.2 c
        refine r_iconst (n := 19) (v := 1) dX7_hasSpan_18 ki_1 rfl ?_
        refine r_goto (n := 23) dX7_hasSpan_19 (by decide) ?_
        exact rs_zret dX7_hasSpan_23 rfl (by decide) H
set_option maxRecDepth 20000 in
theorem en_X7_begin {g : OG} {d : Nat} {I : IT} {X : XT} {K : IT → XT → Prop} {a : Nat} {l1 : Int32} (ha : a ∈ rowL)
    (H : (l1 < 0 →
        K I X) ∧
      (¬ l1 < 0 →
        (l1 ≤ 40 →
          ∀ I1 : IT, I1 = set2 I a 1 l1 →
          SR g (d + 1) iX7_begin 18 [(0, rf g a), (1, .int l1), (2, .int 0)] I1 X (qV K)) ∧
        (¬ l1 ≤ 40 →
          K I X))) : CV g (d + 1) iX7_begin [rf g a, .int l1] I X K := by
  refine ocall_of (by decide) (Nat.le_of_ble_eq_true rfl) ?_
  show SR g (d + 1) iX7_begin 0 [(0, rf g a), (1, .int l1)] I X (qV K)
  refine r_iload_n (n := 1) 1 dX7_begin_0 rfl rfl ?_
  refine r_if_lt (n := 4) (tgt := 10) dX7_begin_1 (by decide) rfl (fun c => ?_) (fun c => ?_)
  · have H := H.1 c
    exact rs_vret dX7_begin_10 rfl H
  · have H := H.2 c
    refine r_iload_n (n := 5) 1 dX7_begin_4 rfl rfl ?_
    refine r_bipush (n := 7) (v := 40) dX7_begin_5 kb_40 rfl ?_
    refine r_icmp_le (n := 10) (tgt := 11) dX7_begin_7 (by decide) rfl (fun c => ?_) (fun c => ?_)
    · have H := H.1 c
      refine r_aload_n (n := 12) 0 dX7_begin_11 rfl rfl ?_
      refine r_iload_n (n := 13) 1 dX7_begin_12 rfl rfl ?_
      have H := H _ rfl
      refine rs_putI (n := 16) cls_6 1 fp_6_1 (row_o ha) gw_96 dX7_begin_13 rfl ?_
      refine r_iconst (n := 17) (v := 0) dX7_begin_16 ki_0 rfl ?_
      refine r_istore_n (n := 18) (lv' := [(2, .int _), (0, .ref _), (1, .int _)]) dX7_begin_17 rfl (by decide) rfl rfl ?_
      exact r_sub [1, 2, 0] rfl H
    · have H := H.2 c
      exact rs_vret dX7_begin_10 rfl H
set_option maxRecDepth 20000 in
theorem rg_X7_begin_18 {g : OG} {d : Nat} {I : IT} {X : XT} {K : IT → XT → Prop} {a : Nat} {l1 : Int32} {l2 : Int32} (ha : a ∈ rowL)
    (H : (l1 ≤ l2 →
        K I X) ∧
      (¬ l1 ≤ l2 →
        vp_in l2 40 ∧
        ∀ I2 : IT, I2 = set2 I (a + 1) l2.toNatClampNeg 0 →
        ∀ x3 : Int32, x3 = l2 + 1 →
        SR g (d + 1) iX7_begin 18 [(0, rf g a), (1, .int l1), (2, .int x3)] I2 X (qV K))) : SR g (d + 1) iX7_begin 18 [(0, rf g a), (1, .int l1), (2, .int l2)] I X (qV K) := by
  refine r_iload_n (n := 19) 2 dX7_begin_18 rfl rfl ?_
  refine r_iload_n (n := 20) 1 dX7_begin_19 rfl rfl ?_
  refine r_icmp_ge (n := 23) (tgt := 36) dX7_begin_20 (by decide) rfl (fun c => ?_) (fun c => ?_)
  · have H := H.1 c
    exact rs_vret dX7_begin_36 rfl H
  · have H := H.2 c
    refine r_aload_n (n := 24) 0 dX7_begin_23 rfl rfl ?_
    refine r_getR (n := 27) cls_6 0 fi_6_0 (row_o ha) gw_94 dX7_begin_24 rfl (row_r0 ha) (row_n0 ha) ?_
    refine r_iload_n (n := 28) 2 dX7_begin_27 rfl rfl ?_
    refine r_iconst (n := 29) (v := 0) dX7_begin_28 ki_0 rfl ?_
    obtain ⟨hi1, H⟩ := H
    have H := H _ rfl
    refine rs_iast (n := 30) (row_a0 ha) hi1 dX7_begin_29 rfl ?_
    have H := H _ rfl
    refine r_iinc (n := 33) (lv' := [(2, .int _), (0, .ref _), (1, .int _)]) 2 dX7_begin_30 rfl rfl (by decide) rfl rfl ?_
    refine r_goto (n := 18) dX7_begin_33 (by decide) ?_
    exact r_sub [1, 2, 0] rfl H
set_option maxRecDepth 20000 in
theorem en_X7_end {g : OG} {d : Nat} {I : IT} {X : XT} {K : IT → XT → Prop} {a : Nat} (ha : a ∈ rowL)
    (H : ∀ I1 : IT, I1 = set2 I a 1 ((-1)) →
      K I1 X) : CV g (d + 1) iX7_end [rf g a] I X K := by
  refine ocall_of (by decide) (Nat.le_of_ble_eq_true rfl) ?_
  show SR g (d + 1) iX7_end 0 [(0, rf g a)] I X (qV K)
  refine r_aload_n (n := 1) 0 dX7_end_0 rfl rfl ?_
  refine r_iconst (n := 2) (v := (-1)) dX7_end_1 ki_m1 rfl ?_
  have H := H _ rfl
  refine rs_putI (n := 5) cls_6 1 fp_6_1 (row_o ha) gw_96 dX7_end_2 rfl ?_
  exact rs_vret dX7_end_5 rfl H
set_option maxRecDepth 20000 in
theorem en_X7_get {g : OG} {d : Nat} {I : IT} {X : XT} {K : Int32 → IT → XT → Prop} {a : Nat} {l1 : Int32} (ha : a ∈ rowL)
    (H : CI g d iX7_has [rf g a, .int l1] I X (fun r1 I2 X3 =>
        (r1 = 0 →
          K 0 I2 X3) ∧
        (¬ r1 = 0 →
          vp_in l1 40 ∧
          K (I2 (a + 1) l1.toNatClampNeg) I2 X3))) : CI g (d + 1) iX7_get [rf g a, .int l1] I X K := by
  refine ocall_of (by decide) (Nat.le_of_ble_eq_true rfl) ?_
  show SR g (d + 1) iX7_get 0 [(0, rf g a), (1, .int l1)] I X (qI K)
  refine r_aload_n (n := 1) 0 dX7_get_0 rfl rfl ?_
  refine r_iload_n (n := 2) 1 dX7_get_1 rfl rfl ?_
  refine rs_cVi (n := 5) (rest := []) (As := [.int _]) vm_X7_has gw_398 (row_o ha) cq_6 dX7_get_2 rfl rfl (Nat.le_of_ble_eq_true rfl) rfl (CI.mono H (fun r1 I2 X3 H => ?_))
  refine r_if_eq (n := 8) (tgt := 17) dX7_get_5 (by decide) rfl (fun c => ?_) (fun c => ?_)
  · have H := H.1 c
    refine r_iconst (n := 18) (v := 0) dX7_get_17 ki_0 rfl ?_
    exact rs_iret dX7_get_18 rfl H
  · have H := H.2 c
    refine r_aload_n (n := 9) 0 dX7_get_8 rfl rfl ?_
    refine r_getR (n := 12) cls_6 0 fi_6_0 (row_o ha) gw_94 dX7_get_9 rfl (row_r0 ha) (row_n0 ha) ?_
    refine r_iload_n (n := 13) 1 dX7_get_12 rfl rfl ?_
    obtain ⟨hi4, H⟩ := H
    refine rs_iald (n := 14) (row_a0 ha) hi4 dX7_get_13 rfl ?_
    refine r_goto (n := 18) dX7_get_14 (by decide) ?_
    exact rs_iret dX7_get_18 rfl H
set_option maxRecDepth 20000 in
theorem en_X7_set {g : OG} {d : Nat} {I : IT} {X : XT} {K : IT → XT → Prop} {a : Nat} {l1 : Int32} {l2 : Int32} (ha : a ∈ rowL)
    (H : CI g d iX7_has [rf g a, .int l1] I X (fun r1 I2 X3 =>
        (r1 = 0 →
          K I2 X3) ∧
        (¬ r1 = 0 →
          vp_in l1 40 ∧
          ∀ I5 : IT, I5 = set2 I2 (a + 1) l1.toNatClampNeg l2 →
          K I5 X3))) : CV g (d + 1) iX7_set [rf g a, .int l1, .int l2] I X K := by
  refine ocall_of (by decide) (Nat.le_of_ble_eq_true rfl) ?_
  show SR g (d + 1) iX7_set 0 [(0, rf g a), (1, .int l1), (2, .int l2)] I X (qV K)
  refine r_aload_n (n := 1) 0 dX7_set_0 rfl rfl ?_
  refine r_iload_n (n := 2) 1 dX7_set_1 rfl rfl ?_
  refine rs_cVi (n := 5) (rest := []) (As := [.int _]) vm_X7_has gw_398 (row_o ha) cq_6 dX7_set_2 rfl rfl (Nat.le_of_ble_eq_true rfl) rfl (CI.mono H (fun r1 I2 X3 H => ?_))
  refine r_if_eq (n := 8) (tgt := 15) dX7_set_5 (by decide) rfl (fun c => ?_) (fun c => ?_)
  · have H := H.1 c
    exact rs_vret dX7_set_15 rfl H
  · have H := H.2 c
    refine r_aload_n (n := 9) 0 dX7_set_8 rfl rfl ?_
    refine r_getR (n := 12) cls_6 0 fi_6_0 (row_o ha) gw_94 dX7_set_9 rfl (row_r0 ha) (row_n0 ha) ?_
    refine r_iload_n (n := 13) 1 dX7_set_12 rfl rfl ?_
    refine r_iload_n (n := 14) 2 dX7_set_13 rfl rfl ?_
    obtain ⟨hi4, H⟩ := H
    have H := H _ rfl
    refine rs_iast (n := 15) (row_a0 ha) hi4 dX7_set_14 rfl ?_
    exact rs_vret dX7_set_15 rfl H
set_option maxRecDepth 20000 in
theorem en_X7_lacks {g : OG} {d : Nat} {I : IT} {X : XT} {K : Int32 → IT → XT → Prop} {a : Nat} {l1 : Int32} (ha : a ∈ rowL)
    (H : CI g d iX7_isThere [rf g a] I X (fun r1 I2 X3 =>
        (¬ r1 = 0 →
          CI g d iX7_has [rf g a, .int l1] I2 X3 (fun r4 I5 X6 =>
            (r4 = 0 →
              K 2 I5 X6) ∧
            (¬ r4 = 0 →
              K 0 I5 X6))) ∧
        (r1 = 0 →
          K 1 I2 X3))) : CI g (d + 1) iX7_lacks [rf g a, .int l1] I X K := by
  refine ocall_of (by decide) (Nat.le_of_ble_eq_true rfl) ?_
  show SR g (d + 1) iX7_lacks 0 [(0, rf g a), (1, .int l1)] I X (qI K)
  refine r_aload_n (n := 1) 0 dX7_lacks_0 rfl rfl ?_
  refine rs_cVi (n := 4) (rest := []) (As := []) vm_X7_isThere gw_394 (row_o ha) cq_6 dX7_lacks_1 rfl rfl (Nat.le_of_ble_eq_true rfl) rfl (CI.mono H (fun r1 I2 X3 H => ?_))
  refine r_if_ne (n := 7) (tgt := 9) dX7_lacks_4 (by decide) rfl (fun c => ?_) (fun c => ?_)
  · have H := H.1 c
    refine r_aload_n (n := 10) 0 dX7_lacks_9 rfl rfl ?_
    refine r_iload_n (n := 11) 1 dX7_lacks_10 rfl rfl ?_
    refine rs_cVi (n := 14) (rest := []) (As := [.int _]) vm_X7_has gw_398 (row_o ha) cq_6 dX7_lacks_11 rfl rfl (Nat.le_of_ble_eq_true rfl) rfl (CI.mono H (fun r4 I5 X6 H => ?_))
    refine r_if_eq (n := 17) (tgt := 21) dX7_lacks_14 (by decide) rfl (fun c => ?_) (fun c => ?_)
    · have H := H.1 c
      refine r_iconst (n := 22) (v := 2) dX7_lacks_21 ki_2 rfl ?_
      exact rs_iret dX7_lacks_22 rfl H
    · have H := H.2 c
      refine r_iconst (n := 18) (v := 0) dX7_lacks_17 ki_0 rfl ?_
      refine r_goto (n := 22) dX7_lacks_18 (by decide) ?_
      exact rs_iret dX7_lacks_22 rfl H
  · have H := H.2 c
    refine r_iconst (n := 8) (v := 1) dX7_lacks_7 ki_1 rfl ?_
    exact rs_iret dX7_lacks_8 rfl H
set_option maxRecDepth 20000 in
theorem en_X7_lacksSizeOrRange {g : OG} {d : Nat} {I : IT} {X : XT} {K : Int32 → IT → XT → Prop} {a : Nat} {l1 : Int32} {l2 : Int32} {l3 : Int32} (ha : a ∈ rowL)
    (H : CI g d iX7_isThere [rf g a] I X (fun r1 I2 X3 =>
        (¬ r1 = 0 →
          ((I2 a 1) < l1 →
            K 5 I2 X3) ∧
          (¬ (I2 a 1) < l1 →
            ((I2 a 1) ≤ l2 →
              SR g (d + 1) iX7_lacksSizeOrRange 30 [(0, rf g a), (3, .int l3), (4, .int 0)] I2 X3 (qI K)) ∧
            (¬ (I2 a 1) ≤ l2 →
              K 5 I2 X3))) ∧
        (r1 = 0 →
          K 1 I2 X3))) : CI g (d + 1) iX7_lacksSizeOrRange [rf g a, .int l1, .int l2, .int l3] I X K := by
  refine ocall_of (by decide) (Nat.le_of_ble_eq_true rfl) ?_
  show SR g (d + 1) iX7_lacksSizeOrRange 0 [(0, rf g a), (1, .int l1), (2, .int l2), (3, .int l3)] I X (qI K)
  refine r_aload_n (n := 1) 0 dX7_lacksSizeOrRange_0 rfl rfl ?_
  refine rs_cVi (n := 4) (rest := []) (As := []) vm_X7_isThere gw_394 (row_o ha) cq_6 dX7_lacksSizeOrRange_1 rfl rfl (Nat.le_of_ble_eq_true rfl) rfl (CI.mono H (fun r1 I2 X3 H => ?_))
  refine r_if_ne (n := 7) (tgt := 9) dX7_lacksSizeOrRange_4 (by decide) rfl (fun c => ?_) (fun c => ?_)
  · have H := H.1 c
    refine r_aload_n (n := 10) 0 dX7_lacksSizeOrRange_9 rfl rfl ?_
    refine rs_getI (n := 13) cls_6 1 fi_6_1 (row_o ha) gw_96 dX7_lacksSizeOrRange_10 rfl ?_
    refine r_iload_n (n := 14) 1 dX7_lacksSizeOrRange_13 rfl rfl ?_
    refine r_icmp_lt (n := 17) (tgt := 25) dX7_lacksSizeOrRange_14 (by decide) rfl (fun c => ?_) (fun c => ?_)
    · have H := H.1 c
      refine r_iconst (n := 26) (v := 5) dX7_lacksSizeOrRange_25 ki_5 rfl ?_
      exact rs_iret dX7_lacksSizeOrRange_26 rfl H
    · have H := H.2 c
      refine r_aload_n (n := 18) 0 dX7_lacksSizeOrRange_17 rfl rfl ?_
      refine rs_getI (n := 21) cls_6 1 fi_6_1 (row_o ha) gw_96 dX7_lacksSizeOrRange_18 rfl ?_
      refine r_iload_n (n := 22) 2 dX7_lacksSizeOrRange_21 rfl rfl ?_
      refine r_icmp_le (n := 25) (tgt := 27) dX7_lacksSizeOrRange_22 (by decide) rfl (fun c => ?_) (fun c => ?_)
      · have H := H.1 c
        refine r_iconst (n := 28) (v := 0) dX7_lacksSizeOrRange_27 ki_0 rfl ?_
        refine r_istore (n := 30) (lv' := [(4, .int _), (0, .ref _), (1, .int _), (2, .int _), (3, .int _)]) dX7_lacksSizeOrRange_28 (by decide) rfl rfl ?_
        exact r_sub [1, 4, 0] rfl H
      · have H := H.2 c
        refine r_iconst (n := 26) (v := 5) dX7_lacksSizeOrRange_25 ki_5 rfl ?_
        exact rs_iret dX7_lacksSizeOrRange_26 rfl H
  · have H := H.2 c
    refine r_iconst (n := 8) (v := 1) dX7_lacksSizeOrRange_7 ki_1 rfl ?_
    exact rs_iret dX7_lacksSizeOrRange_8 rfl H
set_option maxRecDepth 20000 in
theorem rg_X7_lacksSizeOrRange_30 {g : OG} {d : Nat} {I : IT} {X : XT} {K : Int32 → IT → XT → Prop} {a : Nat} {l3 : Int32} {l4 : Int32} (ha : a ∈ rowL)
    (H : ((I a 1) ≤ l4 →
        K 0 I X) ∧
      (¬ (I a 1) ≤ l4 →
        vp_in l4 40 ∧
        ((I (a + 1) l4.toNatClampNeg) < 0 →
          K 3 I X) ∧
        (¬ (I (a + 1) l4.toNatClampNeg) < 0 →
          vp_in l4 40 ∧
          ((I (a + 1) l4.toNatClampNeg) ≤ l3 →
            ∀ x3 : Int32, x3 = l4 + 1 →
            SR g (d + 1) iX7_lacksSizeOrRange 30 [(0, rf g a), (3, .int l3), (4, .int x3)] I X (qI K)) ∧
          (¬ (I (a + 1) l4.toNatClampNeg) ≤ l3 →
            K 3 I X)))) : SR g (d + 1) iX7_lacksSizeOrRange 30 [(0, rf g a), (3, .int l3), (4, .int l4)] I X (qI K) := by
  refine r_iload (n := 32) 2 dX7_lacksSizeOrRange_30 rfl rfl ?_
  refine r_aload_n (n := 33) 0 dX7_lacksSizeOrRange_32 rfl rfl ?_
  refine rs_getI (n := 36) cls_6 1 fi_6_1 (row_o ha) gw_96 dX7_lacksSizeOrRange_33 rfl ?_
  refine r_icmp_ge (n := 39) (tgt := 68) dX7_lacksSizeOrRange_36 (by decide) rfl (fun c => ?_) (fun c => ?_)
  · have H := H.1 c
    refine r_iconst (n := 69) (v := 0) dX7_lacksSizeOrRange_68 ki_0 rfl ?_
    exact rs_iret dX7_lacksSizeOrRange_69 rfl H
  · have H := H.2 c
    refine r_aload_n (n := 40) 0 dX7_lacksSizeOrRange_39 rfl rfl ?_
    refine r_getR (n := 43) cls_6 0 fi_6_0 (row_o ha) gw_94 dX7_lacksSizeOrRange_40 rfl (row_r0 ha) (row_n0 ha) ?_
    refine r_iload (n := 45) 2 dX7_lacksSizeOrRange_43 rfl rfl ?_
    obtain ⟨hi1, H⟩ := H
    refine rs_iald (n := 46) (row_a0 ha) hi1 dX7_lacksSizeOrRange_45 rfl ?_
    refine r_if_lt (n := 49) (tgt := 60) dX7_lacksSizeOrRange_46 (by decide) rfl (fun c => ?_) (fun c => ?_)
    · have H := H.1 c
      refine r_iconst (n := 61) (v := 3) dX7_lacksSizeOrRange_60 ki_3 rfl ?_
      exact rs_iret dX7_lacksSizeOrRange_61 rfl H
    · have H := H.2 c
      refine r_aload_n (n := 50) 0 dX7_lacksSizeOrRange_49 rfl rfl ?_
      refine r_getR (n := 53) cls_6 0 fi_6_0 (row_o ha) gw_94 dX7_lacksSizeOrRange_50 rfl (row_r0 ha) (row_n0 ha) ?_
      refine r_iload (n := 55) 2 dX7_lacksSizeOrRange_53 rfl rfl ?_
      obtain ⟨hi2, H⟩ := H
      refine rs_iald (n := 56) (row_a0 ha) hi2 dX7_lacksSizeOrRange_55 rfl ?_
      refine r_iload_n (n := 57) 1 dX7_lacksSizeOrRange_56 rfl rfl ?_
      refine r_icmp_le (n := 60) (tgt := 62) dX7_lacksSizeOrRange_57 (by decide) rfl (fun c => ?_) (fun c => ?_)
      · have H := H.1 c
        have H := H _ rfl
        refine r_iinc (n := 65) (lv' := [(4, .int _), (0, .ref _), (3, .int _)]) 2 dX7_lacksSizeOrRange_62 rfl rfl (by decide) rfl rfl ?_
        refine r_goto (n := 30) dX7_lacksSizeOrRange_65 (by decide) ?_
        exact r_sub [1, 2, 0] rfl H
      · have H := H.2 c
        refine r_iconst (n := 61) (v := 3) dX7_lacksSizeOrRange_60 ki_3 rfl ?_
        exact rs_iret dX7_lacksSizeOrRange_61 rfl H
set_option maxRecDepth 20000 in
theorem en_X7_sum {g : OG} {d : Nat} {I : IT} {X : XT} {K : Int64 → IT → XT → Prop} {a : Nat} (ha : a ∈ rowL)
    (H : SR g (d + 1) iX7_sum 4 [(0, rf g a), (1, .long 0), (3, .int 0)] I X (qL K)) : CL g (d + 1) iX7_sum [rf g a] I X K := by
  refine ocall_of (by decide) (Nat.le_of_ble_eq_true rfl) ?_
  show SR g (d + 1) iX7_sum 0 [(0, rf g a)] I X (qL K)
  refine r_lconst (n := 1) (v := 0) dX7_sum_0 (by decide) rfl ?_
  refine r_lstore_n (n := 2) (lv' := [(1, .long _), (0, .ref _)]) dX7_sum_1 rfl (by decide) rfl rfl ?_
  refine r_iconst (n := 3) (v := 0) dX7_sum_2 ki_0 rfl ?_
  refine r_istore_n (n := 4) (lv' := [(3, .int _), (1, .long _), (0, .ref _)]) dX7_sum_3 rfl (by decide) rfl rfl ?_
  exact r_sub [2, 1, 0] rfl H
set_option maxRecDepth 20000 in
theorem rg_X7_sum_4 {g : OG} {d : Nat} {I : IT} {X : XT} {K : Int64 → IT → XT → Prop} {a : Nat} {l1 : Int64} {l3 : Int32} (ha : a ∈ rowL)
    (H : ((I a 1) ≤ l3 →
        K l1 I X) ∧
      (¬ (I a 1) ≤ l3 →
        vp_in l3 40 ∧
        ∀ x2 : Int64, x2 = l1 + ((I (a + 1) l3.toNatClampNeg).toInt64) →
        ∀ x3 : Int32, x3 = l3 + 1 →
        SR g (d + 1) iX7_sum 4 [(0, rf g a), (1, .long x2), (3, .int x3)] I X (qL K))) : SR g (d + 1) iX7_sum 4 [(0, rf g a), (1, .long l1), (3, .int l3)] I X (qL K) := by
  refine r_iload_n (n := 5) 2 dX7_sum_4 rfl rfl ?_
  refine r_aload_n (n := 6) 0 dX7_sum_5 rfl rfl ?_
  refine rs_getI (n := 9) cls_6 1 fi_6_1 (row_o ha) gw_96 dX7_sum_6 rfl ?_
  refine r_icmp_ge (n := 12) (tgt := 28) dX7_sum_9 (by decide) rfl (fun c => ?_) (fun c => ?_)
  · have H := H.1 c
    refine r_lload_n (n := 29) 1 dX7_sum_28 rfl rfl ?_
    exact rs_lret dX7_sum_29 rfl H
  · have H := H.2 c
    refine r_lload_n (n := 13) 1 dX7_sum_12 rfl rfl ?_
    refine r_aload_n (n := 14) 0 dX7_sum_13 rfl rfl ?_
    refine r_getR (n := 17) cls_6 0 fi_6_0 (row_o ha) gw_94 dX7_sum_14 rfl (row_r0 ha) (row_n0 ha) ?_
    refine r_iload_n (n := 18) 2 dX7_sum_17 rfl rfl ?_
    obtain ⟨hi1, H⟩ := H
    refine rs_iald (n := 19) (row_a0 ha) hi1 dX7_sum_18 rfl ?_
    refine r_i2l (n := 20) dX7_sum_19 rfl ?_
    refine r_ladd (n := 21) dX7_sum_20 rfl ?_
    have H := H _ rfl
    refine r_lstore_n (n := 22) (lv' := [(1, .long _), (0, .ref _), (3, .int _)]) dX7_sum_21 rfl (by decide) rfl rfl ?_
    have H := H _ rfl
    refine r_iinc (n := 25) (lv' := [(3, .int _), (1, .long _), (0, .ref _)]) 2 dX7_sum_22 rfl rfl (by decide) rfl rfl ?_
    refine r_goto (n := 4) dX7_sum_25 (by decide) ?_
    exact r_sub [2, 1, 0] rfl H
set_option maxRecDepth 20000 in
theorem en_X7_union {g : OG} {d : Nat} {I : IT} {X : XT} {K : Int32 → IT → XT → Prop} {a : Nat} (ha : a ∈ rowL)
    (H : SR g (d + 1) iX7_union 4 [(0, rf g a), (1, .int 0), (2, .int 0)] I X (qI K)) : CI g (d + 1) iX7_union [rf g a] I X K := by
  refine ocall_of (by decide) (Nat.le_of_ble_eq_true rfl) ?_
  show SR g (d + 1) iX7_union 0 [(0, rf g a)] I X (qI K)
  refine r_iconst (n := 1) (v := 0) dX7_union_0 ki_0 rfl ?_
  refine r_istore_n (n := 2) (lv' := [(1, .int _), (0, .ref _)]) dX7_union_1 rfl (by decide) rfl rfl ?_
  refine r_iconst (n := 3) (v := 0) dX7_union_2 ki_0 rfl ?_
  refine r_istore_n (n := 4) (lv' := [(2, .int _), (1, .int _), (0, .ref _)]) dX7_union_3 rfl (by decide) rfl rfl ?_
  exact r_sub [2, 1, 0] rfl H
set_option maxRecDepth 20000 in
theorem rg_X7_union_4 {g : OG} {d : Nat} {I : IT} {X : XT} {K : Int32 → IT → XT → Prop} {a : Nat} {l1 : Int32} {l2 : Int32} (ha : a ∈ rowL)
    (H : ((I a 1) ≤ l2 →
        K l1 I X) ∧
      (¬ (I a 1) ≤ l2 →
        vp_in l2 40 ∧
        ∀ x2 : Int32, x2 = l1 ||| (I (a + 1) l2.toNatClampNeg) →
        ∀ x3 : Int32, x3 = l2 + 1 →
        SR g (d + 1) iX7_union 4 [(0, rf g a), (1, .int x2), (2, .int x3)] I X (qI K))) : SR g (d + 1) iX7_union 4 [(0, rf g a), (1, .int l1), (2, .int l2)] I X (qI K) := by
  refine r_iload_n (n := 5) 2 dX7_union_4 rfl rfl ?_
  refine r_aload_n (n := 6) 0 dX7_union_5 rfl rfl ?_
  refine rs_getI (n := 9) cls_6 1 fi_6_1 (row_o ha) gw_96 dX7_union_6 rfl ?_
  refine r_icmp_ge (n := 12) (tgt := 27) dX7_union_9 (by decide) rfl (fun c => ?_) (fun c => ?_)
  · have H := H.1 c
    refine r_iload_n (n := 28) 1 dX7_union_27 rfl rfl ?_
    exact rs_iret dX7_union_28 rfl H
  · have H := H.2 c
    refine r_iload_n (n := 13) 1 dX7_union_12 rfl rfl ?_
    refine r_aload_n (n := 14) 0 dX7_union_13 rfl rfl ?_
    refine r_getR (n := 17) cls_6 0 fi_6_0 (row_o ha) gw_94 dX7_union_14 rfl (row_r0 ha) (row_n0 ha) ?_
    refine r_iload_n (n := 18) 2 dX7_union_17 rfl rfl ?_
    obtain ⟨hi1, H⟩ := H
    refine rs_iald (n := 19) (row_a0 ha) hi1 dX7_union_18 rfl ?_
    refine r_ior (n := 20) dX7_union_19 rfl ?_
    have H := H _ rfl
    refine r_istore_n (n := 21) (lv' := [(1, .int _), (0, .ref _), (2, .int _)]) dX7_union_20 rfl (by decide) rfl rfl ?_
    have H := H _ rfl
    refine r_iinc (n := 24) (lv' := [(2, .int _), (1, .int _), (0, .ref _)]) 2 dX7_union_21 rfl rfl (by decide) rfl rfl ?_
    refine r_goto (n := 4) dX7_union_24 (by decide) ?_
    exact r_sub [2, 1, 0] rfl H
set_option maxRecDepth 20000 in
theorem en_X7_digestOnto {g : OG} {d : Nat} {I : IT} {X : XT} {K : Int64 → IT → XT → Prop} {a : Nat} {l1 : Int64} (ha : a ∈ rowL)
    (H : ∀ x1 : Int64, x1 = (31 * l1) + ((I a 1).toInt64) →
      SR g (d + 1) iX7_digestOnto 15 [(0, rf g a), (3, .long x1), (5, .int 0)] I X (qL K)) : CL g (d + 1) iX7_digestOnto [rf g a, .long l1] I X K := by
  refine ocall_of (by decide) (Nat.le_of_ble_eq_true rfl) ?_
  show SR g (d + 1) iX7_digestOnto 0 [(0, rf g a), (1, .long l1)] I X (qL K)
  refine r_ldc2 (n := 3) (v := 31) dX7_digestOnto_0 gw_1014 rfl ?_
  refine r_lload_n (n := 4) 1 dX7_digestOnto_3 rfl rfl ?_
  refine r_lmul (n := 5) dX7_digestOnto_4 rfl ?_
  refine r_aload_n (n := 6) 0 dX7_digestOnto_5 rfl rfl ?_
  refine rs_getI (n := 9) cls_6 1 fi_6_1 (row_o ha) gw_96 dX7_digestOnto_6 rfl ?_
  refine r_i2l (n := 10) dX7_digestOnto_9 rfl ?_
  refine r_ladd (n := 11) dX7_digestOnto_10 rfl ?_
  have H := H _ rfl
  refine r_lstore_n (n := 12) (lv' := [(3, .long _), (0, .ref _), (1, .long _)]) dX7_digestOnto_11 rfl (by decide) rfl rfl ?_
  refine r_iconst (n := 13) (v := 0) dX7_digestOnto_12 ki_0 rfl ?_
  refine r_istore (n := 15) (lv' := [(5, .int _), (3, .long _), (0, .ref _), (1, .long _)]) dX7_digestOnto_13 (by decide) rfl rfl ?_
  exact r_sub [2, 1, 0] rfl H
set_option maxRecDepth 20000 in
theorem rg_X7_digestOnto_15 {g : OG} {d : Nat} {I : IT} {X : XT} {K : Int64 → IT → XT → Prop} {a : Nat} {l3 : Int64} {l5 : Int32} (ha : a ∈ rowL)
    (H : ((I a 1) ≤ l5 →
        K l3 I X) ∧
      (¬ (I a 1) ≤ l5 →
        vp_in l5 40 ∧
        ∀ x2 : Int64, x2 = (31 * l3) + ((I (a + 1) l5.toNatClampNeg).toInt64) →
        ∀ x3 : Int32, x3 = l5 + 1 →
        SR g (d + 1) iX7_digestOnto 15 [(0, rf g a), (3, .long x2), (5, .int x3)] I X (qL K))) : SR g (d + 1) iX7_digestOnto 15 [(0, rf g a), (3, .long l3), (5, .int l5)] I X (qL K) := by
  refine r_iload (n := 17) 2 dX7_digestOnto_15 rfl rfl ?_
  refine r_aload_n (n := 18) 0 dX7_digestOnto_17 rfl rfl ?_
  refine rs_getI (n := 21) cls_6 1 fi_6_1 (row_o ha) gw_96 dX7_digestOnto_18 rfl ?_
  refine r_icmp_ge (n := 24) (tgt := 45) dX7_digestOnto_21 (by decide) rfl (fun c => ?_) (fun c => ?_)
  · have H := H.1 c
    refine r_lload_n (n := 46) 1 dX7_digestOnto_45 rfl rfl ?_
    exact rs_lret dX7_digestOnto_46 rfl H
  · have H := H.2 c
    refine r_ldc2 (n := 27) (v := 31) dX7_digestOnto_24 gw_1014 rfl ?_
    refine r_lload_n (n := 28) 1 dX7_digestOnto_27 rfl rfl ?_
    refine r_lmul (n := 29) dX7_digestOnto_28 rfl ?_
    refine r_aload_n (n := 30) 0 dX7_digestOnto_29 rfl rfl ?_
    refine r_getR (n := 33) cls_6 0 fi_6_0 (row_o ha) gw_94 dX7_digestOnto_30 rfl (row_r0 ha) (row_n0 ha) ?_
    refine r_iload (n := 35) 2 dX7_digestOnto_33 rfl rfl ?_
    obtain ⟨hi1, H⟩ := H
    refine rs_iald (n := 36) (row_a0 ha) hi1 dX7_digestOnto_35 rfl ?_
    refine r_i2l (n := 37) dX7_digestOnto_36 rfl ?_
    refine r_ladd (n := 38) dX7_digestOnto_37 rfl ?_
    have H := H _ rfl
    refine r_lstore_n (n := 39) (lv' := [(3, .long _), (0, .ref _), (5, .int _)]) dX7_digestOnto_38 rfl (by decide) rfl rfl ?_
    have H := H _ rfl
    refine r_iinc (n := 42) (lv' := [(5, .int _), (3, .long _), (0, .ref _)]) 2 dX7_digestOnto_39 rfl rfl (by decide) rfl rfl ?_
    refine r_goto (n := 15) dX7_digestOnto_42 (by decide) ?_
    exact r_sub [2, 1, 0] rfl H
set_option maxRecDepth 20000 in
theorem en_X8_search {g : OG} {d : Nat} {I : IT} {X : XT} {K : IT → XT → Prop} {p1 : Nat} {p2 : Nat} (hp1 : p1 ∈ fireL) (hp2 : p2 ∈ rowL)
    (H : ∀ X1 : XT, X1 = (X.1, p2, X.2.2) →
      ∀ I2 : IT, I2 = set2 I 91 3 0 →
      ∀ I3 : IT, I3 = set2 I2 91 4 0 →
      SR g (d + 1) iX8_search 17 [(0, rf g 91), (1, rf g p1), (3, .int 0)] I3 X1 (qV K)) : CV g (d + 1) iX8_search [rf g 91, rf g p1, rf g p2] I X K := by
  refine ocall_of (by decide) (Nat.le_of_ble_eq_true rfl) ?_
  show SR g (d + 1) iX8_search 0 [(0, rf g 91), (1, rf g p1), (2, rf g p2)] I X (qV K)
  refine r_aload_n (n := 1) 0 dX8_search_0 rfl rfl ?_
  refine r_aload_n (n := 2) 2 dX8_search_1 rfl rfl ?_
  have H := H _ rfl
  refine rs_putBook (n := 5) (rowl_nz hp2) gw_274 dX8_search_2 rfl ?_
  refine r_aload_n (n := 6) 0 dX8_search_5 rfl rfl ?_
  refine r_iconst (n := 7) (v := 0) dX8_search_6 ki_0 rfl ?_
  have H := H _ rfl
  refine rs_putI (n := 10) cls_7 3 fp_7_3 so_91 gw_275 dX8_search_7 rfl ?_
  refine r_aload_n (n := 11) 0 dX8_search_10 rfl rfl ?_
  refine r_iconst (n := 12) (v := 0) dX8_search_11 ki_0 rfl ?_
  have H := H _ rfl
  refine rs_putI (n := 15) cls_7 4 fp_7_4 so_91 gw_277 dX8_search_12 rfl ?_
  refine r_iconst (n := 16) (v := 0) dX8_search_15 ki_0 rfl ?_
  refine r_istore_n (n := 17) (lv' := [(3, .int _), (0, .ref _), (1, .ref _), (2, .ref _)]) dX8_search_16 rfl (by decide) rfl rfl ?_
  exact r_sub [1, 2, 0] rfl H
set_option maxRecDepth 20000 in
theorem rg_X8_search_17 {g : OG} {d : Nat} {I : IT} {X : XT} {K : IT → XT → Prop} {p1 : Nat} {l3 : Int32} (hp1 : p1 ∈ fireL)
    (H : ((I 24 4) ≤ l3 →
        K I X) ∧
      (¬ (I 24 4) ≤ l3 →
        CI g d iX1_canStrike [rf g p1, .int l3] I X (fun r1 I2 X3 =>
          (r1 = 0 →
            ∀ x4 : Int32, x4 = l3 + 1 →
            SR g (d + 1) iX8_search 17 [(0, rf g 91), (1, rf g p1), (3, .int x4)] I2 X3 (qV K)) ∧
          (¬ r1 = 0 →
            ∀ x5 : Int32, x5 = I2 91 3 →
            vp_in 0 6 ∧
            CV g d iX1_become [rf g (slvA (0 : Int32).toNatClampNeg), rf g p1] I2 X3 (fun I7 X8 =>
              vp_in 0 6 ∧
              CV g d iX1_light [rf g (slvA (0 : Int32).toNatClampNeg), .int l3] I7 X8 (fun I10 X11 =>
                CV g d iX8_walk [rf g 91, .int 0] I10 X11 (fun I12 X13 =>
                  ((I12 91 3) ≤ x5 →
                    ∀ I14 : IT, I14 = set2 I12 91 4 ((I12 91 4) ||| 0) →
                    ∀ x15 : Int32, x15 = l3 + 1 →
                    SR g (d + 1) iX8_search 17 [(0, rf g 91), (1, rf g p1), (3, .int x15)] I14 X13 (qV K)) ∧
                  (¬ (I12 91 3) ≤ x5 →
                    ∀ I16 : IT, I16 = set2 I12 91 4 ((I12 91 4) ||| (1 <<< (l3 &&& 31))) →
                    ∀ x17 : Int32, x17 = l3 + 1 →
                    SR g (d + 1) iX8_search 17 [(0, rf g 91), (1, rf g p1), (3, .int x17)] I16 X13 (qV K))))))))) : SR g (d + 1) iX8_search 17 [(0, rf g 91), (1, rf g p1), (3, .int l3)] I X (qV K) := by
  refine r_iload_n (n := 18) 2 dX8_search_17 rfl rfl ?_
  refine r_aload_n (n := 19) 0 dX8_search_18 rfl rfl ?_
  refine r_getR (n := 22) cls_7 0 fi_7_0 so_91 gw_272 dX8_search_19 rfl sr_91_0 (by decide) ?_
  refine rs_getI (n := 25) cls_2 4 fi_2_4 (lane_o (by decide : (24 : Nat) ∈ laneL)) gw_135 dX8_search_22 rfl ?_
  refine r_icmp_ge (n := 28) (tgt := 98) dX8_search_25 (by decide) rfl (fun c => ?_) (fun c => ?_)
  · have H := H.1 c
    exact rs_vret dX8_search_98 rfl H
  · have H := H.2 c
    refine r_aload_n (n := 29) 1 dX8_search_28 rfl rfl ?_
    refine r_iload_n (n := 30) 2 dX8_search_29 rfl rfl ?_
    refine rs_cVi (n := 33) (rest := []) (As := [.int _]) vm_X1_canStrike gw_898 (fire_o hp1) cq_1 dX8_search_30 rfl rfl (Nat.le_of_ble_eq_true rfl) rfl (CI.mono H (fun r1 I2 X3 H => ?_))
    refine r_if_eq (n := 36) (tgt := 92) dX8_search_33 (by decide) rfl (fun c => ?_) (fun c => ?_)
    · have H := H.1 c
      have H := H _ rfl
      refine r_iinc (n := 95) (lv' := [(3, .int _), (0, .ref _), (1, .ref _)]) 2 dX8_search_92 rfl rfl (by decide) rfl rfl ?_
      refine r_goto (n := 17) dX8_search_95 (by decide) ?_
      exact r_sub [1, 2, 0] rfl H
    · have H := H.2 c
      refine r_aload_n (n := 37) 0 dX8_search_36 rfl rfl ?_
      refine rs_getI (n := 40) cls_7 3 fi_7_3 so_91 gw_275 dX8_search_37 rfl ?_
      have H := H _ rfl
      refine r_istore (n := 42) (lv' := [(4, .int _), (0, .ref _), (1, .ref _), (3, .int _)]) dX8_search_40 (by decide) rfl rfl ?_
      refine r_aload_n (n := 43) 1 dX8_search_42 rfl rfl ?_
      refine r_getR (n := 46) cls_7 1 fi_7_1 so_91 gw_273 dX8_search_43 rfl sr_91_1 (by decide) ?_
      refine r_iconst (n := 47) (v := 0) dX8_search_46 ki_0 rfl ?_
      obtain ⟨hi6, H⟩ := H
      refine r_aald (n := 48) (z := 6) (t0 := 6) (K := "OneMatch$Fire") sa_92 (by decide) (fun _ => rfl) hi6 dX8_search_47 rfl (slv_el hi6) (slv_nz hi6) ?_
      refine r_aload_n (n := 49) 2 dX8_search_48 rfl rfl ?_
      refine rs_cVv (n := 52) (rest := []) (As := [.ref _]) vm_X1_become gw_899 (fire_o (slv_mem hi6)) cq_1 dX8_search_49 rfl rfl (Nat.le_of_ble_eq_true rfl) rfl (CV.mono H (fun I7 X8 H => ?_))
      refine r_aload_n (n := 53) 1 dX8_search_52 rfl rfl ?_
      refine r_getR (n := 56) cls_7 1 fi_7_1 so_91 gw_273 dX8_search_53 rfl sr_91_1 (by decide) ?_
      refine r_iconst (n := 57) (v := 0) dX8_search_56 ki_0 rfl ?_
      obtain ⟨hi9, H⟩ := H
      refine r_aald (n := 58) (z := 6) (t0 := 6) (K := "OneMatch$Fire") sa_92 (by decide) (fun _ => rfl) hi9 dX8_search_57 rfl (slv_el hi9) (slv_nz hi9) ?_
      refine r_iload_n (n := 59) 3 dX8_search_58 rfl rfl ?_
      refine rs_cVv (n := 62) (rest := []) (As := [.int _]) vm_X1_light gw_900 (fire_o (slv_mem hi9)) cq_1 dX8_search_59 rfl rfl (Nat.le_of_ble_eq_true rfl) rfl (CV.mono H (fun I10 X11 H => ?_))
      refine r_aload_n (n := 63) 1 dX8_search_62 rfl rfl ?_
      refine r_iconst (n := 64) (v := 0) dX8_search_63 ki_0 rfl ?_
      refine rs_cVv (n := 67) (rest := []) (As := [.int _]) vm_X8_walk gw_901 so_91 cq_7 dX8_search_64 rfl rfl (Nat.le_of_ble_eq_true rfl) rfl (CV.mono H (fun I12 X13 H => ?_))
      refine r_aload_n (n := 68) 1 dX8_search_67 rfl rfl ?_
      refine r_dup (n := 69) dX8_search_68 rfl rfl ?_
      refine rs_getI (n := 72) cls_7 4 fi_7_4 so_91 gw_277 dX8_search_69 rfl ?_
      refine r_aload_n (n := 73) 1 dX8_search_72 rfl rfl ?_
      refine rs_getI (n := 76) cls_7 3 fi_7_3 so_91 gw_275 dX8_search_73 rfl ?_
      refine r_iload (n := 78) 0 dX8_search_76 rfl rfl ?_
      refine r_icmp_le (n := 81) (tgt := 87) dX8_search_78 (by decide) rfl (fun c => ?_) (fun c => ?_)
      · have H := H.1 c
        refine r_iconst (n := 88) (v := 0) dX8_search_87 ki_0 rfl ?_
        refine r_ior (n := 89) dX8_search_88 rfl ?_
        have H := H _ rfl
        refine rs_putI (n := 92) cls_7 4 fp_7_4 so_91 gw_277 dX8_search_89 rfl ?_
        have H := H _ rfl
        refine r_iinc (n := 95) (lv' := [(3, .int _), (4, .int _), (0, .ref _), (1, .ref _)]) 3 dX8_search_92 rfl rfl (by decide) rfl rfl ?_
        refine r_goto (n := 17) dX8_search_95 (by decide) ?_
        exact r_sub [2, 3, 0] rfl H
      · have H := H.2 c
        refine r_iconst (n := 82) (v := 1) dX8_search_81 ki_1 rfl ?_
        refine r_iload_n (n := 83) 3 dX8_search_82 rfl rfl ?_
        refine r_ishl (n := 84) dX8_search_83 rfl ?_
        refine r_goto (n := 88) dX8_search_84 (by decide) ?_
        refine r_ior (n := 89) dX8_search_88 rfl ?_
        have H := H _ rfl
        refine rs_putI (n := 92) cls_7 4 fp_7_4 so_91 gw_277 dX8_search_89 rfl ?_
        have H := H _ rfl
        refine r_iinc (n := 95) (lv' := [(3, .int _), (4, .int _), (0, .ref _), (1, .ref _)]) 3 dX8_search_92 rfl rfl (by decide) rfl rfl ?_
        refine r_goto (n := 17) dX8_search_95 (by decide) ?_
        exact r_sub [2, 3, 0] rfl H
set_option maxRecDepth 20000 in
theorem en_X8_walk {g : OG} {d : Nat} {I : IT} {X : XT} {K : IT → XT → Prop} {l1 : Int32} 
    (H : X.2.1 ∈ rowL ∧
      (l1 < 0 →
        K I X) ∧
      (¬ l1 < 0 →
        (l1 ≤ 5 →
          X.2.1 ∈ rowL ∧
          (l1 < (I X.2.1 1) →
            SR g (d + 1) iX8_walk 41 [(0, rf g 91), (1, .int l1), (2, .int 0)] I X (qV K)) ∧
          (¬ l1 < (I X.2.1 1) →
            ∀ I3 : IT, I3 = set2 I 91 3 ((I 91 3) + 1) →
            K I3 X)) ∧
        (¬ l1 ≤ 5 →
          K I X))) : CV g (d + 1) iX8_walk [rf g 91, .int l1] I X K := by
  refine ocall_of (by decide) (Nat.le_of_ble_eq_true rfl) ?_
  show SR g (d + 1) iX8_walk 0 [(0, rf g 91), (1, .int l1)] I X (qV K)
  refine r_aload_n (n := 1) 0 dX8_walk_0 rfl rfl ?_
  obtain ⟨hm1, H⟩ := H
  refine r_getR (n := 4) cls_7 2 fi_7_2 so_91 gw_274 dX8_walk_1 rfl sr_91_2 (rowl_nz hm1) ?_
  refine r_ifnull (n := 7) dX8_walk_4 rfl ?_
  refine r_iload_n (n := 8) 1 dX8_walk_7 rfl rfl ?_
  refine r_if_lt (n := 11) (tgt := 16) dX8_walk_8 (by decide) rfl (fun c => ?_) (fun c => ?_)
  · have H := H.1 c
    exact rs_vret dX8_walk_16 rfl H
  · have H := H.2 c
    refine r_iload_n (n := 12) 1 dX8_walk_11 rfl rfl ?_
    refine r_iconst (n := 13) (v := 5) dX8_walk_12 ki_5 rfl ?_
    refine r_icmp_le (n := 16) (tgt := 17) dX8_walk_13 (by decide) rfl (fun c => ?_) (fun c => ?_)
    · have H := H.1 c
      refine r_iload_n (n := 18) 1 dX8_walk_17 rfl rfl ?_
      refine r_aload_n (n := 19) 0 dX8_walk_18 rfl rfl ?_
      obtain ⟨hm2, H⟩ := H
      refine r_getR (n := 22) cls_7 2 fi_7_2 so_91 gw_274 dX8_walk_19 rfl sr_91_2 (rowl_nz hm2) ?_
      refine rs_getI (n := 25) cls_6 1 fi_6_1 (row_o hm2) gw_98 dX8_walk_22 rfl ?_
      refine r_icmp_lt (n := 28) (tgt := 39) dX8_walk_25 (by decide) rfl (fun c => ?_) (fun c => ?_)
      · have H := H.1 c
        refine r_iconst (n := 40) (v := 0) dX8_walk_39 ki_0 rfl ?_
        refine r_istore_n (n := 41) (lv' := [(2, .int _), (0, .ref _), (1, .int _)]) dX8_walk_40 rfl (by decide) rfl rfl ?_
        exact r_sub [1, 2, 0] rfl H
      · have H := H.2 c
        refine r_aload_n (n := 29) 0 dX8_walk_28 rfl rfl ?_
        refine r_dup (n := 30) dX8_walk_29 rfl rfl ?_
        refine rs_getI (n := 33) cls_7 3 fi_7_3 so_91 gw_275 dX8_walk_30 rfl ?_
        refine r_iconst (n := 34) (v := 1) dX8_walk_33 ki_1 rfl ?_
        refine r_iadd (n := 35) dX8_walk_34 rfl ?_
        have H := H _ rfl
        refine rs_putI (n := 38) cls_7 3 fp_7_3 so_91 gw_275 dX8_walk_35 rfl ?_
        exact rs_vret dX8_walk_38 rfl H
    · have H := H.2 c
      exact rs_vret dX8_walk_16 rfl H
set_option maxRecDepth 20000 in
theorem rg_X8_walk_41 {g : OG} {d : Nat} {I : IT} {X : XT} {K : IT → XT → Prop} {l1 : Int32} {l2 : Int32} 
    (H : (36 < l2 →
        K I X) ∧
      (¬ 36 < l2 →
        (l2 = 36 →
          CV g d iX8_take [rf g 91, .int l1, .int l2] I X (fun I1 X2 =>
            ∀ x3 : Int32, x3 = l2 + 1 →
            SR g (d + 1) iX8_walk 41 [(0, rf g 91), (1, .int l1), (2, .int x3)] I1 X2 (qV K))) ∧
        (¬ l2 = 36 →
          vp_in l1 6 ∧
          CI g d iX1_canMove [rf g (slvA l1.toNatClampNeg), .int l2] I X (fun r5 I6 X7 =>
            (r5 = 0 →
              ∀ x8 : Int32, x8 = l2 + 1 →
              SR g (d + 1) iX8_walk 41 [(0, rf g 91), (1, .int l1), (2, .int x8)] I6 X7 (qV K)) ∧
            (¬ r5 = 0 →
              CV g d iX8_take [rf g 91, .int l1, .int l2] I6 X7 (fun I9 X10 =>
                ∀ x11 : Int32, x11 = l2 + 1 →
                SR g (d + 1) iX8_walk 41 [(0, rf g 91), (1, .int l1), (2, .int x11)] I9 X10 (qV K))))))) : SR g (d + 1) iX8_walk 41 [(0, rf g 91), (1, .int l1), (2, .int l2)] I X (qV K) := by
  refine r_iload_n (n := 42) 2 dX8_walk_41 rfl rfl ?_
  refine r_bipush (n := 44) (v := 36) dX8_walk_42 kb_36 rfl ?_
  refine r_icmp_gt (n := 47) (tgt := 78) dX8_walk_44 (by decide) rfl (fun c => ?_) (fun c => ?_)
  · have H := H.1 c
    exact rs_vret dX8_walk_78 rfl H
  · have H := H.2 c
    refine r_iload_n (n := 48) 2 dX8_walk_47 rfl rfl ?_
    refine r_bipush (n := 50) (v := 36) dX8_walk_48 kb_36 rfl ?_
    refine r_icmp_eq (n := 53) (tgt := 66) dX8_walk_50 (by decide) rfl (fun c => ?_) (fun c => ?_)
    · have H := H.1 c
      refine r_aload_n (n := 67) 0 dX8_walk_66 rfl rfl ?_
      refine r_iload_n (n := 68) 1 dX8_walk_67 rfl rfl ?_
      refine r_iload_n (n := 69) 2 dX8_walk_68 rfl rfl ?_
      refine rs_cVv (n := 72) (rest := []) (As := [.int _, .int _]) vm_X8_take gw_906 so_91 cq_7 dX8_walk_69 rfl rfl (Nat.le_of_ble_eq_true rfl) rfl (CV.mono H (fun I1 X2 H => ?_))
      have H := H _ rfl
      refine r_iinc (n := 75) (lv' := [(2, .int _), (0, .ref _), (1, .int _)]) 2 dX8_walk_72 rfl rfl (by decide) rfl rfl ?_
      refine r_goto (n := 41) dX8_walk_75 (by decide) ?_
      exact r_sub [1, 2, 0] rfl H
    · have H := H.2 c
      refine r_aload_n (n := 54) 0 dX8_walk_53 rfl rfl ?_
      refine r_getR (n := 57) cls_7 1 fi_7_1 so_91 gw_273 dX8_walk_54 rfl sr_91_1 (by decide) ?_
      refine r_iload_n (n := 58) 1 dX8_walk_57 rfl rfl ?_
      obtain ⟨hi4, H⟩ := H
      refine r_aald (n := 59) (z := 6) (t0 := 6) (K := "OneMatch$Fire") sa_92 (by decide) (fun _ => rfl) hi4 dX8_walk_58 rfl (slv_el hi4) (slv_nz hi4) ?_
      refine r_iload_n (n := 60) 2 dX8_walk_59 rfl rfl ?_
      refine rs_cVi (n := 63) (rest := []) (As := [.int _]) vm_X1_canMove gw_905 (fire_o (slv_mem hi4)) cq_1 dX8_walk_60 rfl rfl (Nat.le_of_ble_eq_true rfl) rfl (CI.mono H (fun r5 I6 X7 H => ?_))
      refine r_if_eq (n := 66) (tgt := 72) dX8_walk_63 (by decide) rfl (fun c => ?_) (fun c => ?_)
      · have H := H.1 c
        have H := H _ rfl
        refine r_iinc (n := 75) (lv' := [(2, .int _), (0, .ref _), (1, .int _)]) 2 dX8_walk_72 rfl rfl (by decide) rfl rfl ?_
        refine r_goto (n := 41) dX8_walk_75 (by decide) ?_
        exact r_sub [1, 2, 0] rfl H
      · have H := H.2 c
        refine r_aload_n (n := 67) 0 dX8_walk_66 rfl rfl ?_
        refine r_iload_n (n := 68) 1 dX8_walk_67 rfl rfl ?_
        refine r_iload_n (n := 69) 2 dX8_walk_68 rfl rfl ?_
        refine rs_cVv (n := 72) (rest := []) (As := [.int _, .int _]) vm_X8_take gw_906 so_91 cq_7 dX8_walk_69 rfl rfl (Nat.le_of_ble_eq_true rfl) rfl (CV.mono H (fun I9 X10 H => ?_))
        have H := H _ rfl
        refine r_iinc (n := 75) (lv' := [(2, .int _), (0, .ref _), (1, .int _)]) 2 dX8_walk_72 rfl rfl (by decide) rfl rfl ?_
        refine r_goto (n := 41) dX8_walk_75 (by decide) ?_
        exact r_sub [1, 2, 0] rfl H
set_option maxRecDepth 20000 in
theorem en_X8_take {g : OG} {d : Nat} {I : IT} {X : XT} {K : IT → XT → Prop} {l1 : Int32} {l2 : Int32} 
    (H : X.2.1 ∈ rowL ∧
      (l1 < 0 →
        K I X) ∧
      (¬ l1 < 0 →
        (l1 < 5 →
          vp_in (l1 + 1) 6 ∧
          vp_in l1 6 ∧
          CV g d iX1_become [rf g (slvA (l1 + 1).toNatClampNeg), rf g (slvA l1.toNatClampNeg)] I X (fun I4 X5 =>
            CV g d iX1_bring [rf g (slvA (l1 + 1).toNatClampNeg), .int l2] I4 X5 (fun I6 X7 =>
              CV g d iX1_pass [rf g (slvA (l1 + 1).toNatClampNeg)] I6 X7 (fun I8 X9 =>
                X9.2.1 ∈ rowL ∧
                CI g d iX7_get [rf g X9.2.1, .int l1] I8 X9 (fun r11 I12 X13 =>
                  (¬ (I8 (slvA (l1 + 1).toNatClampNeg) 3) = r11 →
                    K I12 X13) ∧
                  ((I8 (slvA (l1 + 1).toNatClampNeg) 3) = r11 →
                    CV g d iX8_walk [rf g 91, .int (l1 + 1)] I12 X13 (fun I14 X15 =>
                      K I14 X15))))))) ∧
        (¬ l1 < 5 →
          K I X))) : CV g (d + 1) iX8_take [rf g 91, .int l1, .int l2] I X K := by
  refine ocall_of (by decide) (Nat.le_of_ble_eq_true rfl) ?_
  show SR g (d + 1) iX8_take 0 [(0, rf g 91), (1, .int l1), (2, .int l2)] I X (qV K)
  refine r_aload_n (n := 1) 0 dX8_take_0 rfl rfl ?_
  obtain ⟨hm1, H⟩ := H
  refine r_getR (n := 4) cls_7 2 fi_7_2 so_91 gw_274 dX8_take_1 rfl sr_91_2 (rowl_nz hm1) ?_
  refine r_ifnull (n := 7) dX8_take_4 rfl ?_
  refine r_iload_n (n := 8) 1 dX8_take_7 rfl rfl ?_
  refine r_if_lt (n := 11) (tgt := 16) dX8_take_8 (by decide) rfl (fun c => ?_) (fun c => ?_)
  · have H := H.1 c
    exact rs_vret dX8_take_16 rfl H
  · have H := H.2 c
    refine r_iload_n (n := 12) 1 dX8_take_11 rfl rfl ?_
    refine r_iconst (n := 13) (v := 5) dX8_take_12 ki_5 rfl ?_
    refine r_icmp_lt (n := 16) (tgt := 17) dX8_take_13 (by decide) rfl (fun c => ?_) (fun c => ?_)
    · have H := H.1 c
      refine r_aload_n (n := 18) 0 dX8_take_17 rfl rfl ?_
      refine r_getR (n := 21) cls_7 1 fi_7_1 so_91 gw_273 dX8_take_18 rfl sr_91_1 (by decide) ?_
      refine r_iload_n (n := 22) 1 dX8_take_21 rfl rfl ?_
      refine r_iconst (n := 23) (v := 1) dX8_take_22 ki_1 rfl ?_
      refine r_iadd (n := 24) dX8_take_23 rfl ?_
      obtain ⟨hi2, H⟩ := H
      refine r_aald (n := 25) (z := 6) (t0 := 6) (K := "OneMatch$Fire") sa_92 (by decide) (fun _ => rfl) hi2 dX8_take_24 rfl (slv_el hi2) (slv_nz hi2) ?_
      refine r_astore_n (n := 26) (lv' := [(3, .ref _), (0, .ref _), (1, .int _), (2, .int _)]) dX8_take_25 rfl (by decide) rfl rfl ?_
      refine r_aload_n (n := 27) 0 dX8_take_26 rfl rfl ?_
      refine r_aload_n (n := 28) 1 dX8_take_27 rfl rfl ?_
      refine r_getR (n := 31) cls_7 1 fi_7_1 so_91 gw_273 dX8_take_28 rfl sr_91_1 (by decide) ?_
      refine r_iload_n (n := 32) 2 dX8_take_31 rfl rfl ?_
      obtain ⟨hi3, H⟩ := H
      refine r_aald (n := 33) (z := 6) (t0 := 6) (K := "OneMatch$Fire") sa_92 (by decide) (fun _ => rfl) hi3 dX8_take_32 rfl (slv_el hi3) (slv_nz hi3) ?_
      refine rs_cVv (n := 36) (rest := []) (As := [.ref _]) vm_X1_become gw_899 (fire_o (slv_mem hi2)) cq_1 dX8_take_33 rfl rfl (Nat.le_of_ble_eq_true rfl) rfl (CV.mono H (fun I4 X5 H => ?_))
      refine r_aload_n (n := 37) 0 dX8_take_36 rfl rfl ?_
      refine r_iload_n (n := 38) 3 dX8_take_37 rfl rfl ?_
      refine rs_cVv (n := 41) (rest := []) (As := [.int _]) vm_X1_bring gw_910 (fire_o (slv_mem hi2)) cq_1 dX8_take_38 rfl rfl (Nat.le_of_ble_eq_true rfl) rfl (CV.mono H (fun I6 X7 H => ?_))
      refine r_aload_n (n := 42) 0 dX8_take_41 rfl rfl ?_
      refine rs_cVv (n := 45) (rest := []) (As := []) vm_X1_pass gw_911 (fire_o (slv_mem hi2)) cq_1 dX8_take_42 rfl rfl (Nat.le_of_ble_eq_true rfl) rfl (CV.mono H (fun I8 X9 H => ?_))
      refine r_aload_n (n := 46) 0 dX8_take_45 rfl rfl ?_
      refine rs_getI (n := 49) cls_1 3 fi_1_3 (fire_o (slv_mem hi2)) gw_166 dX8_take_46 rfl ?_
      refine r_aload_n (n := 50) 1 dX8_take_49 rfl rfl ?_
      obtain ⟨hm10, H⟩ := H
      refine r_getR (n := 53) cls_7 2 fi_7_2 so_91 gw_274 dX8_take_50 rfl sr_91_2 (rowl_nz hm10) ?_
      refine r_iload_n (n := 54) 2 dX8_take_53 rfl rfl ?_
      refine rs_cVi (n := 57) (rest := [.int _]) (As := [.int _]) vm_X7_get gw_912 (row_o hm10) cq_6 dX8_take_54 rfl rfl (Nat.le_of_ble_eq_true rfl) rfl (CI.mono H (fun r11 I12 X13 H => ?_))
      refine r_icmp_ne (n := 60) (tgt := 67) dX8_take_57 (by decide) rfl (fun c => ?_) (fun c => ?_)
      · have H := H.1 c
        exact rs_vret dX8_take_67 rfl H
      · have H := H.2 c
        refine r_aload_n (n := 61) 1 dX8_take_60 rfl rfl ?_
        refine r_iload_n (n := 62) 2 dX8_take_61 rfl rfl ?_
        refine r_iconst (n := 63) (v := 1) dX8_take_62 ki_1 rfl ?_
        refine r_iadd (n := 64) dX8_take_63 rfl ?_
        refine rs_cVv (n := 67) (rest := []) (As := [.int _]) vm_X8_walk gw_901 so_91 cq_7 dX8_take_64 rfl rfl (Nat.le_of_ble_eq_true rfl) rfl (CV.mono H (fun I14 X15 H => ?_))
        exact rs_vret dX8_take_67 rfl H
    · have H := H.2 c
      exact rs_vret dX8_take_16 rfl H
set_option maxRecDepth 20000 in
theorem en_X9_isThere {g : OG} {d : Nat} {I : IT} {X : XT} {K : Int32 → IT → XT → Prop} {a : Nat} (ha : a ∈ textL)
    (H : ((I a 1) < 0 →
        K 0 I X) ∧
      (¬ (I a 1) < 0 →
        K 1 I X)) : CI g (d + 1) iX9_isThere [rf g a] I X K := by
  refine ocall_of (by decide) (Nat.le_of_ble_eq_true rfl) ?_
  show SR g (d + 1) iX9_isThere 0 [(0, rf g a)] I X (qI K)
  refine r_aload_n (n := 1) 0 dX9_isThere_0 rfl rfl ?_
  refine rs_getI (n := 4) cls_8 1 fi_8_1 (text_o ha) gw_114 dX9_isThere_1 rfl ?_
  refine r_if_lt (n := 7) (tgt := 11) dX9_isThere_4 (by decide) rfl (fun c => ?_) (fun c => ?_)
  · have H := H.1 c
    refine r_iconst (n := 12) (v := 0) dX9_isThere_11 ki_0 rfl ?_
    exact rs_zret dX9_isThere_12 rfl (by decide) H
  · have H := H.2 c
    refine r_iconst (n := 8) (v := 1) dX9_isThere_7 ki_1 rfl ?_
    refine r_goto (n := 12) dX9_isThere_8 (by decide) ?_
    exact rs_zret dX9_isThere_12 rfl (by decide) H
set_option maxRecDepth 20000 in
theorem en_X9_has {g : OG} {d : Nat} {I : IT} {X : XT} {K : Int32 → IT → XT → Prop} {a : Nat} {l1 : Int32} (ha : a ∈ textL)
    (H : (l1 < 0 →
        K 0 I X) ∧
      (¬ l1 < 0 →
        ((I a 1) ≤ l1 →
          K 0 I X) ∧
        (¬ (I a 1) ≤ l1 →
          K 1 I X))) : CI g (d + 1) iX9_has [rf g a, .int l1] I X K := by
  refine ocall_of (by decide) (Nat.le_of_ble_eq_true rfl) ?_
  show SR g (d + 1) iX9_has 0 [(0, rf g a), (1, .int l1)] I X (qI K)
  refine r_iload_n (n := 1) 1 dX9_has_0 rfl rfl ?_
  refine r_if_lt (n := 4) (tgt := 16) dX9_has_1 (by decide) rfl (fun c => ?_) (fun c => ?_)
  · have H := H.1 c
    refine r_iconst (n := 17) (v := 0) dX9_has_16 ki_0 rfl ?_
    exact rs_zret dX9_has_17 rfl (by decide) H
  · have H := H.2 c
    refine r_iload_n (n := 5) 1 dX9_has_4 rfl rfl ?_
    refine r_aload_n (n := 6) 0 dX9_has_5 rfl rfl ?_
    refine rs_getI (n := 9) cls_8 1 fi_8_1 (text_o ha) gw_114 dX9_has_6 rfl ?_
    refine r_icmp_ge (n := 12) (tgt := 16) dX9_has_9 (by decide) rfl (fun c => ?_) (fun c => ?_)
    · have H := H.1 c
      refine r_iconst (n := 17) (v := 0) dX9_has_16 ki_0 rfl ?_
      exact rs_zret dX9_has_17 rfl (by decide) H
    · have H := H.2 c
      refine r_iconst (n := 13) (v := 1) dX9_has_12 ki_1 rfl ?_
      refine r_goto (n := 17) dX9_has_13 (by decide) ?_
      exact rs_zret dX9_has_17 rfl (by decide) H
set_option maxRecDepth 20000 in
theorem en_X9_begin {g : OG} {d : Nat} {I : IT} {X : XT} {K : IT → XT → Prop} {a : Nat} {l1 : Int32} (ha : a ∈ textL)
    (H : (l1 < 0 →
        K I X) ∧
      (¬ l1 < 0 →
        (l1 ≤ 60 →
          ∀ I1 : IT, I1 = set2 I a 1 l1 →
          SR g (d + 1) iX9_begin 18 [(0, rf g a), (1, .int l1), (2, .int 0)] I1 X (qV K)) ∧
        (¬ l1 ≤ 60 →
          K I X))) : CV g (d + 1) iX9_begin [rf g a, .int l1] I X K := by
  refine ocall_of (by decide) (Nat.le_of_ble_eq_true rfl) ?_
  show SR g (d + 1) iX9_begin 0 [(0, rf g a), (1, .int l1)] I X (qV K)
  refine r_iload_n (n := 1) 1 dX9_begin_0 rfl rfl ?_
  refine r_if_lt (n := 4) (tgt := 10) dX9_begin_1 (by decide) rfl (fun c => ?_) (fun c => ?_)
  · have H := H.1 c
    exact rs_vret dX9_begin_10 rfl H
  · have H := H.2 c
    refine r_iload_n (n := 5) 1 dX9_begin_4 rfl rfl ?_
    refine r_bipush (n := 7) (v := 60) dX9_begin_5 kb_60 rfl ?_
    refine r_icmp_le (n := 10) (tgt := 11) dX9_begin_7 (by decide) rfl (fun c => ?_) (fun c => ?_)
    · have H := H.1 c
      refine r_aload_n (n := 12) 0 dX9_begin_11 rfl rfl ?_
      refine r_iload_n (n := 13) 1 dX9_begin_12 rfl rfl ?_
      have H := H _ rfl
      refine rs_putI (n := 16) cls_8 1 fp_8_1 (text_o ha) gw_114 dX9_begin_13 rfl ?_
      refine r_iconst (n := 17) (v := 0) dX9_begin_16 ki_0 rfl ?_
      refine r_istore_n (n := 18) (lv' := [(2, .int _), (0, .ref _), (1, .int _)]) dX9_begin_17 rfl (by decide) rfl rfl ?_
      exact r_sub [1, 2, 0] rfl H
    · have H := H.2 c
      exact rs_vret dX9_begin_10 rfl H
set_option maxRecDepth 20000 in
theorem rg_X9_begin_18 {g : OG} {d : Nat} {I : IT} {X : XT} {K : IT → XT → Prop} {a : Nat} {l1 : Int32} {l2 : Int32} (ha : a ∈ textL)
    (H : (l1 ≤ l2 →
        K I X) ∧
      (¬ l1 ≤ l2 →
        vp_in l2 60 ∧
        ∀ I2 : IT, I2 = set2 I (a + 1) l2.toNatClampNeg (vp_nar .byte 32) →
        ∀ x3 : Int32, x3 = l2 + 1 →
        SR g (d + 1) iX9_begin 18 [(0, rf g a), (1, .int l1), (2, .int x3)] I2 X (qV K))) : SR g (d + 1) iX9_begin 18 [(0, rf g a), (1, .int l1), (2, .int l2)] I X (qV K) := by
  refine r_iload_n (n := 19) 2 dX9_begin_18 rfl rfl ?_
  refine r_iload_n (n := 20) 1 dX9_begin_19 rfl rfl ?_
  refine r_icmp_ge (n := 23) (tgt := 37) dX9_begin_20 (by decide) rfl (fun c => ?_) (fun c => ?_)
  · have H := H.1 c
    exact rs_vret dX9_begin_37 rfl H
  · have H := H.2 c
    refine r_aload_n (n := 24) 0 dX9_begin_23 rfl rfl ?_
    refine r_getR (n := 27) cls_8 0 fi_8_0 (text_o ha) gw_113 dX9_begin_24 rfl (text_r0 ha) (text_n0 ha) ?_
    refine r_iload_n (n := 28) 2 dX9_begin_27 rfl rfl ?_
    refine r_bipush (n := 30) (v := 32) dX9_begin_28 kb_32 rfl ?_
    obtain ⟨hi1, H⟩ := H
    have H := H _ rfl
    refine rs_bast (n := 31) (text_a0 ha) hi1 dX9_begin_30 rfl ?_
    have H := H _ rfl
    refine r_iinc (n := 34) (lv' := [(2, .int _), (0, .ref _), (1, .int _)]) 2 dX9_begin_31 rfl rfl (by decide) rfl rfl ?_
    refine r_goto (n := 18) dX9_begin_34 (by decide) ?_
    exact r_sub [1, 2, 0] rfl H
set_option maxRecDepth 20000 in
theorem en_X9_get {g : OG} {d : Nat} {I : IT} {X : XT} {K : Int32 → IT → XT → Prop} {a : Nat} {l1 : Int32} (ha : a ∈ textL)
    (H : CI g d iX9_has [rf g a, .int l1] I X (fun r1 I2 X3 =>
        (r1 = 0 →
          K 1000 I2 X3) ∧
        (¬ r1 = 0 →
          vp_in l1 60 ∧
          K (I2 (a + 1) l1.toNatClampNeg) I2 X3))) : CI g (d + 1) iX9_get [rf g a, .int l1] I X K := by
  refine ocall_of (by decide) (Nat.le_of_ble_eq_true rfl) ?_
  show SR g (d + 1) iX9_get 0 [(0, rf g a), (1, .int l1)] I X (qI K)
  refine r_aload_n (n := 1) 0 dX9_get_0 rfl rfl ?_
  refine r_iload_n (n := 2) 1 dX9_get_1 rfl rfl ?_
  refine rs_cVi (n := 5) (rest := []) (As := [.int _]) vm_X9_has gw_469 (text_o ha) cq_8 dX9_get_2 rfl rfl (Nat.le_of_ble_eq_true rfl) rfl (CI.mono H (fun r1 I2 X3 H => ?_))
  refine r_if_eq (n := 8) (tgt := 17) dX9_get_5 (by decide) rfl (fun c => ?_) (fun c => ?_)
  · have H := H.1 c
    refine r_sipush (n := 20) (v := 1000) dX9_get_17 ks_1000 rfl ?_
    exact rs_iret dX9_get_20 rfl H
  · have H := H.2 c
    refine r_aload_n (n := 9) 0 dX9_get_8 rfl rfl ?_
    refine r_getR (n := 12) cls_8 0 fi_8_0 (text_o ha) gw_113 dX9_get_9 rfl (text_r0 ha) (text_n0 ha) ?_
    refine r_iload_n (n := 13) 1 dX9_get_12 rfl rfl ?_
    obtain ⟨hi4, H⟩ := H
    refine rs_bald (n := 14) (text_a0 ha) hi4 dX9_get_13 rfl ?_
    refine r_goto (n := 20) dX9_get_14 (by decide) ?_
    exact rs_iret dX9_get_20 rfl H
set_option maxRecDepth 20000 in
theorem en_X9_set {g : OG} {d : Nat} {I : IT} {X : XT} {K : IT → XT → Prop} {a : Nat} {l1 : Int32} {l2 : Int32} (ha : a ∈ textL)
    (H : CI g d iX9_has [rf g a, .int l1] I X (fun r1 I2 X3 =>
        (r1 = 0 →
          K I2 X3) ∧
        (¬ r1 = 0 →
          vp_in l1 60 ∧
          ∀ I5 : IT, I5 = set2 I2 (a + 1) l1.toNatClampNeg (vp_nar .byte l2.toInt8.toInt32) →
          K I5 X3))) : CV g (d + 1) iX9_set [rf g a, .int l1, .int l2] I X K := by
  refine ocall_of (by decide) (Nat.le_of_ble_eq_true rfl) ?_
  show SR g (d + 1) iX9_set 0 [(0, rf g a), (1, .int l1), (2, .int l2)] I X (qV K)
  refine r_aload_n (n := 1) 0 dX9_set_0 rfl rfl ?_
  refine r_iload_n (n := 2) 1 dX9_set_1 rfl rfl ?_
  refine rs_cVi (n := 5) (rest := []) (As := [.int _]) vm_X9_has gw_469 (text_o ha) cq_8 dX9_set_2 rfl rfl (Nat.le_of_ble_eq_true rfl) rfl (CI.mono H (fun r1 I2 X3 H => ?_))
  refine r_if_eq (n := 8) (tgt := 16) dX9_set_5 (by decide) rfl (fun c => ?_) (fun c => ?_)
  · have H := H.1 c
    exact rs_vret dX9_set_16 rfl H
  · have H := H.2 c
    refine r_aload_n (n := 9) 0 dX9_set_8 rfl rfl ?_
    refine r_getR (n := 12) cls_8 0 fi_8_0 (text_o ha) gw_113 dX9_set_9 rfl (text_r0 ha) (text_n0 ha) ?_
    refine r_iload_n (n := 13) 1 dX9_set_12 rfl rfl ?_
    refine r_iload_n (n := 14) 2 dX9_set_13 rfl rfl ?_
    refine r_i2b (n := 15) dX9_set_14 rfl ?_
    obtain ⟨hi4, H⟩ := H
    have H := H _ rfl
    refine rs_bast (n := 16) (text_a0 ha) hi4 dX9_set_15 rfl ?_
    exact rs_vret dX9_set_16 rfl H
set_option maxRecDepth 20000 in
theorem en_X9_digestOnto {g : OG} {d : Nat} {I : IT} {X : XT} {K : Int64 → IT → XT → Prop} {a : Nat} {l1 : Int64} (ha : a ∈ textL)
    (H : ∀ x1 : Int64, x1 = (31 * l1) + ((I a 1).toInt64) →
      SR g (d + 1) iX9_digestOnto 15 [(0, rf g a), (3, .long x1), (5, .int 0)] I X (qL K)) : CL g (d + 1) iX9_digestOnto [rf g a, .long l1] I X K := by
  refine ocall_of (by decide) (Nat.le_of_ble_eq_true rfl) ?_
  show SR g (d + 1) iX9_digestOnto 0 [(0, rf g a), (1, .long l1)] I X (qL K)
  refine r_ldc2 (n := 3) (v := 31) dX9_digestOnto_0 gw_1019 rfl ?_
  refine r_lload_n (n := 4) 1 dX9_digestOnto_3 rfl rfl ?_
  refine r_lmul (n := 5) dX9_digestOnto_4 rfl ?_
  refine r_aload_n (n := 6) 0 dX9_digestOnto_5 rfl rfl ?_
  refine rs_getI (n := 9) cls_8 1 fi_8_1 (text_o ha) gw_114 dX9_digestOnto_6 rfl ?_
  refine r_i2l (n := 10) dX9_digestOnto_9 rfl ?_
  refine r_ladd (n := 11) dX9_digestOnto_10 rfl ?_
  have H := H _ rfl
  refine r_lstore_n (n := 12) (lv' := [(3, .long _), (0, .ref _), (1, .long _)]) dX9_digestOnto_11 rfl (by decide) rfl rfl ?_
  refine r_iconst (n := 13) (v := 0) dX9_digestOnto_12 ki_0 rfl ?_
  refine r_istore (n := 15) (lv' := [(5, .int _), (3, .long _), (0, .ref _), (1, .long _)]) dX9_digestOnto_13 (by decide) rfl rfl ?_
  exact r_sub [2, 1, 0] rfl H
set_option maxRecDepth 20000 in
theorem rg_X9_digestOnto_15 {g : OG} {d : Nat} {I : IT} {X : XT} {K : Int64 → IT → XT → Prop} {a : Nat} {l3 : Int64} {l5 : Int32} (ha : a ∈ textL)
    (H : ((I a 1) ≤ l5 →
        K l3 I X) ∧
      (¬ (I a 1) ≤ l5 →
        vp_in l5 60 ∧
        ∀ x2 : Int64, x2 = (31 * l3) + ((I (a + 1) l5.toNatClampNeg).toInt64) →
        ∀ x3 : Int32, x3 = l5 + 1 →
        SR g (d + 1) iX9_digestOnto 15 [(0, rf g a), (3, .long x2), (5, .int x3)] I X (qL K))) : SR g (d + 1) iX9_digestOnto 15 [(0, rf g a), (3, .long l3), (5, .int l5)] I X (qL K) := by
  refine r_iload (n := 17) 2 dX9_digestOnto_15 rfl rfl ?_
  refine r_aload_n (n := 18) 0 dX9_digestOnto_17 rfl rfl ?_
  refine rs_getI (n := 21) cls_8 1 fi_8_1 (text_o ha) gw_114 dX9_digestOnto_18 rfl ?_
  refine r_icmp_ge (n := 24) (tgt := 45) dX9_digestOnto_21 (by decide) rfl (fun c => ?_) (fun c => ?_)
  · have H := H.1 c
    refine r_lload_n (n := 46) 1 dX9_digestOnto_45 rfl rfl ?_
    exact rs_lret dX9_digestOnto_46 rfl H
  · have H := H.2 c
    refine r_ldc2 (n := 27) (v := 31) dX9_digestOnto_24 gw_1019 rfl ?_
    refine r_lload_n (n := 28) 1 dX9_digestOnto_27 rfl rfl ?_
    refine r_lmul (n := 29) dX9_digestOnto_28 rfl ?_
    refine r_aload_n (n := 30) 0 dX9_digestOnto_29 rfl rfl ?_
    refine r_getR (n := 33) cls_8 0 fi_8_0 (text_o ha) gw_113 dX9_digestOnto_30 rfl (text_r0 ha) (text_n0 ha) ?_
    refine r_iload (n := 35) 2 dX9_digestOnto_33 rfl rfl ?_
    obtain ⟨hi1, H⟩ := H
    refine rs_bald (n := 36) (text_a0 ha) hi1 dX9_digestOnto_35 rfl ?_
    refine r_i2l (n := 37) dX9_digestOnto_36 rfl ?_
    refine r_ladd (n := 38) dX9_digestOnto_37 rfl ?_
    have H := H _ rfl
    refine r_lstore_n (n := 39) (lv' := [(3, .long _), (0, .ref _), (5, .int _)]) dX9_digestOnto_38 rfl (by decide) rfl rfl ?_
    have H := H _ rfl
    refine r_iinc (n := 42) (lv' := [(5, .int _), (3, .long _), (0, .ref _)]) 2 dX9_digestOnto_39 rfl rfl (by decide) rfl rfl ?_
    refine r_goto (n := 15) dX9_digestOnto_42 (by decide) ?_
    exact r_sub [2, 1, 0] rfl H
set_option maxRecDepth 20000 in
theorem en_J6_bitCount_0f7a4 {g : OG} {d : Nat} {I : IT} {X : XT} {K : Int32 → IT → XT → Prop} {l0 : Int32} 
    (H : ∀ x1 : Int32, x1 = l0 - (((l0.toUInt32 >>> ((1 : Int32).toUInt32 &&& Int32.toUInt32 31)).toInt32) &&& 1431655765) →
      ∀ x2 : Int32, x2 = (x1 &&& 858993459) + (((x1.toUInt32 >>> ((2 : Int32).toUInt32 &&& Int32.toUInt32 31)).toInt32) &&& 858993459) →
      ∀ x3 : Int32, x3 = (x2 + ((x2.toUInt32 >>> ((4 : Int32).toUInt32 &&& Int32.toUInt32 31)).toInt32)) &&& 252645135 →
      ∀ x4 : Int32, x4 = x3 + ((x3.toUInt32 >>> ((8 : Int32).toUInt32 &&& Int32.toUInt32 31)).toInt32) →
      ∀ x5 : Int32, x5 = x4 + ((x4.toUInt32 >>> ((16 : Int32).toUInt32 &&& Int32.toUInt32 31)).toInt32) →
      K (x5 &&& 63) I X) : CI g (d + 1) iJ6_bitCount_0f7a4 [.int l0] I X K := by
  refine ocall_of (by decide) (Nat.le_of_ble_eq_true rfl) ?_
  show SR g (d + 1) iJ6_bitCount_0f7a4 0 [(0, .int l0)] I X (qI K)
  refine r_iload_n (n := 1) 0 dJ6_bitCount_0f7a4_0 rfl rfl ?_
  refine r_iload_n (n := 2) 0 dJ6_bitCount_0f7a4_1 rfl rfl ?_
  refine r_iconst (n := 3) (v := 1) dJ6_bitCount_0f7a4_2 ki_1 rfl ?_
  refine r_iushr (n := 4) dJ6_bitCount_0f7a4_3 rfl ?_
  refine r_ldcw (n := 7) (v := 1431655765) dJ6_bitCount_0f7a4_4 gw_704 rfl ?_
  refine r_iand (n := 8) dJ6_bitCount_0f7a4_7 rfl ?_
  refine r_isub (n := 9) dJ6_bitCount_0f7a4_8 rfl ?_
  have H := H _ rfl
  refine r_istore_n (n := 10) (lv' := [(0, .int _)]) dJ6_bitCount_0f7a4_9 rfl (by decide) rfl rfl ?_
  refine r_iload_n (n := 11) 0 dJ6_bitCount_0f7a4_10 rfl rfl ?_
  refine r_ldcw (n := 14) (v := 858993459) dJ6_bitCount_0f7a4_11 gw_705 rfl ?_
  refine r_iand (n := 15) dJ6_bitCount_0f7a4_14 rfl ?_
  refine r_iload_n (n := 16) 0 dJ6_bitCount_0f7a4_15 rfl rfl ?_
  refine r_iconst (n := 17) (v := 2) dJ6_bitCount_0f7a4_16 ki_2 rfl ?_
  refine r_iushr (n := 18) dJ6_bitCount_0f7a4_17 rfl ?_
  refine r_ldcw (n := 21) (v := 858993459) dJ6_bitCount_0f7a4_18 gw_705 rfl ?_
  refine r_iand (n := 22) dJ6_bitCount_0f7a4_21 rfl ?_
  refine r_iadd (n := 23) dJ6_bitCount_0f7a4_22 rfl ?_
  have H := H _ rfl
  refine r_istore_n (n := 24) (lv' := [(0, .int _)]) dJ6_bitCount_0f7a4_23 rfl (by decide) rfl rfl ?_
  refine r_iload_n (n := 25) 0 dJ6_bitCount_0f7a4_24 rfl rfl ?_
  refine r_iload_n (n := 26) 0 dJ6_bitCount_0f7a4_25 rfl rfl ?_
  refine r_iconst (n := 27) (v := 4) dJ6_bitCount_0f7a4_26 ki_4 rfl ?_
  refine r_iushr (n := 28) dJ6_bitCount_0f7a4_27 rfl ?_
  refine r_iadd (n := 29) dJ6_bitCount_0f7a4_28 rfl ?_
  refine r_ldcw (n := 32) (v := 252645135) dJ6_bitCount_0f7a4_29 gw_706 rfl ?_
  refine r_iand (n := 33) dJ6_bitCount_0f7a4_32 rfl ?_
  have H := H _ rfl
  refine r_istore_n (n := 34) (lv' := [(0, .int _)]) dJ6_bitCount_0f7a4_33 rfl (by decide) rfl rfl ?_
  refine r_iload_n (n := 35) 0 dJ6_bitCount_0f7a4_34 rfl rfl ?_
  refine r_iload_n (n := 36) 0 dJ6_bitCount_0f7a4_35 rfl rfl ?_
  refine r_bipush (n := 38) (v := 8) dJ6_bitCount_0f7a4_36 kb_8 rfl ?_
  refine r_iushr (n := 39) dJ6_bitCount_0f7a4_38 rfl ?_
  refine r_iadd (n := 40) dJ6_bitCount_0f7a4_39 rfl ?_
  have H := H _ rfl
  refine r_istore_n (n := 41) (lv' := [(0, .int _)]) dJ6_bitCount_0f7a4_40 rfl (by decide) rfl rfl ?_
  refine r_iload_n (n := 42) 0 dJ6_bitCount_0f7a4_41 rfl rfl ?_
  refine r_iload_n (n := 43) 0 dJ6_bitCount_0f7a4_42 rfl rfl ?_
  refine r_bipush (n := 45) (v := 16) dJ6_bitCount_0f7a4_43 kb_16 rfl ?_
  refine r_iushr (n := 46) dJ6_bitCount_0f7a4_45 rfl ?_
  refine r_iadd (n := 47) dJ6_bitCount_0f7a4_46 rfl ?_
  have H := H _ rfl
  refine r_istore_n (n := 48) (lv' := [(0, .int _)]) dJ6_bitCount_0f7a4_47 rfl (by decide) rfl rfl ?_
  refine r_iload_n (n := 49) 0 dJ6_bitCount_0f7a4_48 rfl rfl ?_
  refine r_bipush (n := 51) (v := 63) dJ6_bitCount_0f7a4_49 kb_63 rfl ?_
  refine r_iand (n := 52) dJ6_bitCount_0f7a4_51 rfl ?_
  exact rs_iret dJ6_bitCount_0f7a4_52 rfl H

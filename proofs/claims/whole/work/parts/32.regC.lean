set_option maxRecDepth 20000 in
theorem en_X11_in {g : OG} {d : Nat} {I : IT} {X : XT} {K : Int32 → IT → XT → Prop} {l0 : Int32} {l1 : Int32} {l2 : Int32} 
    (H : (l0 < l1 →
        K 0 I X) ∧
      (¬ l0 < l1 →
        (l2 < l0 →
          K 0 I X) ∧
        (¬ l2 < l0 →
          K 1 I X))) : CI g (d + 1) iX11_in [.int l0, .int l1, .int l2] I X K := by
  refine ocall_of (by decide) (Nat.le_of_ble_eq_true rfl) ?_
  show SR g (d + 1) iX11_in 0 [(0, .int l0), (1, .int l1), (2, .int l2)] I X (qI K)
  refine r_iload_n (n := 1) 0 dX11_in_0 rfl rfl ?_
  refine r_iload_n (n := 2) 1 dX11_in_1 rfl rfl ?_
  refine r_icmp_lt (n := 5) (tgt := 14) dX11_in_2 (by decide) rfl (fun c => ?_) (fun c => ?_)
  · have H := H.1 c
    refine r_iconst (n := 15) (v := 0) dX11_in_14 ki_0 rfl ?_
    exact rs_zret dX11_in_15 rfl (by decide) H
  · have H := H.2 c
    refine r_iload_n (n := 6) 0 dX11_in_5 rfl rfl ?_
    refine r_iload_n (n := 7) 2 dX11_in_6 rfl rfl ?_
    refine r_icmp_gt (n := 10) (tgt := 14) dX11_in_7 (by decide) rfl (fun c => ?_) (fun c => ?_)
    · have H := H.1 c
      refine r_iconst (n := 15) (v := 0) dX11_in_14 ki_0 rfl ?_
      exact rs_zret dX11_in_15 rfl (by decide) H
    · have H := H.2 c
      refine r_iconst (n := 11) (v := 1) dX11_in_10 ki_1 rfl ?_
      refine r_goto (n := 15) dX11_in_11 (by decide) ?_
      exact rs_zret dX11_in_15 rfl (by decide) H
set_option maxRecDepth 20000 in
theorem en_X11_has {g : OG} {d : Nat} {I : IT} {X : XT} {K : Int32 → IT → XT → Prop} {l0 : Int32} {l1 : Int32} 
    (H : (¬ ((l0 >>> (l1 &&& 31)) &&& 1) = 1 →
        K 0 I X) ∧
      (((l0 >>> (l1 &&& 31)) &&& 1) = 1 →
        K 1 I X)) : CI g (d + 1) iX11_has [.int l0, .int l1] I X K := by
  refine ocall_of (by decide) (Nat.le_of_ble_eq_true rfl) ?_
  show SR g (d + 1) iX11_has 0 [(0, .int l0), (1, .int l1)] I X (qI K)
  refine r_iload_n (n := 1) 0 dX11_has_0 rfl rfl ?_
  refine r_iload_n (n := 2) 1 dX11_has_1 rfl rfl ?_
  refine r_ishr (n := 3) dX11_has_2 rfl ?_
  refine r_iconst (n := 4) (v := 1) dX11_has_3 ki_1 rfl ?_
  refine r_iand (n := 5) dX11_has_4 rfl ?_
  refine r_iconst (n := 6) (v := 1) dX11_has_5 ki_1 rfl ?_
  refine r_icmp_ne (n := 9) (tgt := 13) dX11_has_6 (by decide) rfl (fun c => ?_) (fun c => ?_)
  · have H := H.1 c
    refine r_iconst (n := 14) (v := 0) dX11_has_13 ki_0 rfl ?_
    exact rs_zret dX11_has_14 rfl (by decide) H
  · have H := H.2 c
    refine r_iconst (n := 10) (v := 1) dX11_has_9 ki_1 rfl ?_
    refine r_goto (n := 14) dX11_has_10 (by decide) ?_
    exact rs_zret dX11_has_14 rfl (by decide) H
set_option maxRecDepth 20000 in
theorem en_X11_bits {g : OG} {d : Nat} {I : IT} {X : XT} {K : Int32 → IT → XT → Prop} {l0 : Int32} 
    (H : SR g (d + 1) iX11_bits 4 [(1, .int 0), (2, .int l0)] I X (qI K)) : CI g (d + 1) iX11_bits [.int l0] I X K := by
  refine ocall_of (by decide) (Nat.le_of_ble_eq_true rfl) ?_
  show SR g (d + 1) iX11_bits 0 [(0, .int l0)] I X (qI K)
  refine r_iconst (n := 1) (v := 0) dX11_bits_0 ki_0 rfl ?_
  refine r_istore_n (n := 2) (lv' := [(1, .int _), (0, .int _)]) dX11_bits_1 rfl (by decide) rfl rfl ?_
  refine r_iload_n (n := 3) 1 dX11_bits_2 rfl rfl ?_
  refine r_istore_n (n := 4) (lv' := [(2, .int _), (1, .int _), (0, .int _)]) dX11_bits_3 rfl (by decide) rfl rfl ?_
  exact r_sub [1, 0] rfl H
set_option maxRecDepth 20000 in
theorem rg_X11_bits_4 {g : OG} {d : Nat} {I : IT} {X : XT} {K : Int32 → IT → XT → Prop} {l1 : Int32} {l2 : Int32} 
    (H : (l2 = 0 →
        K l1 I X) ∧
      (¬ l2 = 0 →
        ∀ x1 : Int32, x1 = l1 + 1 →
        ∀ x2 : Int32, x2 = l2 &&& (l2 - 1) →
        SR g (d + 1) iX11_bits 4 [(1, .int x1), (2, .int x2)] I X (qI K))) : SR g (d + 1) iX11_bits 4 [(1, .int l1), (2, .int l2)] I X (qI K) := by
  refine r_iload_n (n := 5) 1 dX11_bits_4 rfl rfl ?_
  refine r_if_eq (n := 8) (tgt := 20) dX11_bits_5 (by decide) rfl (fun c => ?_) (fun c => ?_)
  · have H := H.1 c
    refine r_iload_n (n := 21) 0 dX11_bits_20 rfl rfl ?_
    exact rs_iret dX11_bits_21 rfl H
  · have H := H.2 c
    have H := H _ rfl
    refine r_iinc (n := 11) (lv' := [(1, .int _), (2, .int _)]) 0 dX11_bits_8 rfl rfl (by decide) rfl rfl ?_
    refine r_iload_n (n := 12) 1 dX11_bits_11 rfl rfl ?_
    refine r_iload_n (n := 13) 1 dX11_bits_12 rfl rfl ?_
    refine r_iconst (n := 14) (v := 1) dX11_bits_13 ki_1 rfl ?_
    refine r_isub (n := 15) dX11_bits_14 rfl ?_
    refine r_iand (n := 16) dX11_bits_15 rfl ?_
    have H := H _ rfl
    refine r_istore_n (n := 17) (lv' := [(2, .int _), (1, .int _)]) dX11_bits_16 rfl (by decide) rfl rfl ?_
    refine r_goto (n := 4) dX11_bits_17 (by decide) ?_
    exact r_sub [1, 0] rfl H
set_option maxRecDepth 20000 in
theorem en_X11_size {g : OG} {d : Nat} {I : IT} {X : XT} {K : Int32 → IT → XT → Prop} {l0 : Int32} 
    (H : (0 ≤ l0 →
        K l0 I X) ∧
      (¬ 0 ≤ l0 →
        K (-l0) I X)) : CI g (d + 1) iX11_size [.int l0] I X K := by
  refine ocall_of (by decide) (Nat.le_of_ble_eq_true rfl) ?_
  show SR g (d + 1) iX11_size 0 [(0, .int l0)] I X (qI K)
  refine r_iload_n (n := 1) 0 dX11_size_0 rfl rfl ?_
  refine r_if_ge (n := 4) (tgt := 9) dX11_size_1 (by decide) rfl (fun c => ?_) (fun c => ?_)
  · have H := H.1 c
    refine r_iload_n (n := 10) 0 dX11_size_9 rfl rfl ?_
    exact rs_iret dX11_size_10 rfl H
  · have H := H.2 c
    refine r_iload_n (n := 5) 0 dX11_size_4 rfl rfl ?_
    refine r_ineg (n := 6) dX11_size_5 rfl ?_
    refine r_goto (n := 10) dX11_size_6 (by decide) ?_
    exact rs_iret dX11_size_10 rfl H
set_option maxRecDepth 20000 in
theorem en_X11_meets {g : OG} {d : Nat} {I : IT} {X : XT} {K : Int32 → IT → XT → Prop} {l1 : Int32} 
    (H : ∀ I1 : IT, I1 = set2 I 129 0 l1 →
      vp_in l1 6 ∧
      vp_in l1 6 ∧
      ∀ I4 : IT, I4 = set2 I1 130 l1.toNatClampNeg ((I1 130 l1.toNatClampNeg) + 1) →
      K ((-3)) I4 X) : CI g (d + 1) iX11_meets [rf g 129, .int l1] I X K := by
  refine ocall_of (by decide) (Nat.le_of_ble_eq_true rfl) ?_
  show SR g (d + 1) iX11_meets 0 [(0, rf g 129), (1, .int l1)] I X (qI K)
  refine r_aload_n (n := 1) 0 dX11_meets_0 rfl rfl ?_
  refine r_iload_n (n := 2) 1 dX11_meets_1 rfl rfl ?_
  have H := H _ rfl
  refine rs_putI (n := 5) cls_10 0 fp_10_0 so_129 gw_1026 dX11_meets_2 rfl ?_
  refine r_aload_n (n := 6) 0 dX11_meets_5 rfl rfl ?_
  refine r_getR (n := 9) cls_10 1 fi_10_1 so_129 gw_1027 dX11_meets_6 rfl sr_129_1 (by decide) ?_
  refine r_iload_n (n := 10) 1 dX11_meets_9 rfl rfl ?_
  refine r_dup2 (n := 11) dX11_meets_10 rfl rfl rfl ?_
  obtain ⟨hi2, H⟩ := H
  refine rs_iald (n := 12) sa_130 hi2 dX11_meets_11 rfl ?_
  refine r_iconst (n := 13) (v := 1) dX11_meets_12 ki_1 rfl ?_
  refine r_iadd (n := 14) dX11_meets_13 rfl ?_
  obtain ⟨hi3, H⟩ := H
  have H := H _ rfl
  refine rs_iast (n := 15) sa_130 hi3 dX11_meets_14 rfl ?_
  refine r_bipush (n := 17) (v := (-3)) dX11_meets_15 kb_m3 rfl ?_
  exact rs_iret dX11_meets_17 rfl H
set_option maxRecDepth 20000 in
theorem en_X11_finding {g : OG} {d : Nat} {I : IT} {X : XT} {K : Int32 → IT → XT → Prop}  
    (H : K (I 129 0) I X) : CI g (d + 1) iX11_finding [rf g 129] I X K := by
  refine ocall_of (by decide) (Nat.le_of_ble_eq_true rfl) ?_
  show SR g (d + 1) iX11_finding 0 [(0, rf g 129)] I X (qI K)
  refine r_aload_n (n := 1) 0 dX11_finding_0 rfl rfl ?_
  refine rs_getI (n := 4) cls_10 0 fi_10_0 so_129 gw_1026 dX11_finding_1 rfl ?_
  exact rs_iret dX11_finding_4 rfl H
set_option maxRecDepth 20000 in
theorem en_X11_findings {g : OG} {d : Nat} {I : IT} {X : XT} {K : Int32 → IT → XT → Prop} {l1 : Int32} 
    (H : CI g d iX11_in [.int l1, .int 1, .int 5] I X (fun r1 I2 X3 =>
        (r1 = 0 →
          K ((-1)) I2 X3) ∧
        (¬ r1 = 0 →
          vp_in l1 6 ∧
          K (I2 130 l1.toNatClampNeg) I2 X3))) : CI g (d + 1) iX11_findings [rf g 129, .int l1] I X K := by
  refine ocall_of (by decide) (Nat.le_of_ble_eq_true rfl) ?_
  show SR g (d + 1) iX11_findings 0 [(0, rf g 129), (1, .int l1)] I X (qI K)
  refine r_iload_n (n := 1) 1 dX11_findings_0 rfl rfl ?_
  refine r_iconst (n := 2) (v := 1) dX11_findings_1 ki_1 rfl ?_
  refine r_iconst (n := 3) (v := 5) dX11_findings_2 ki_5 rfl ?_
  refine rs_cSi (n := 6) (rest := []) (As := [.int _, .int _, .int _]) sm_X11_in gw_1150 dX11_findings_3 rfl rfl (Nat.le_of_ble_eq_true rfl) rfl (CI.mono H (fun r1 I2 X3 H => ?_))
  refine r_if_eq (n := 9) (tgt := 18) dX11_findings_6 (by decide) rfl (fun c => ?_) (fun c => ?_)
  · have H := H.1 c
    refine r_iconst (n := 19) (v := (-1)) dX11_findings_18 ki_m1 rfl ?_
    exact rs_iret dX11_findings_19 rfl H
  · have H := H.2 c
    refine r_aload_n (n := 10) 0 dX11_findings_9 rfl rfl ?_
    refine r_getR (n := 13) cls_10 1 fi_10_1 so_129 gw_1027 dX11_findings_10 rfl sr_129_1 (by decide) ?_
    refine r_iload_n (n := 14) 1 dX11_findings_13 rfl rfl ?_
    obtain ⟨hi4, H⟩ := H
    refine rs_iald (n := 15) sa_130 hi4 dX11_findings_14 rfl ?_
    refine r_goto (n := 19) dX11_findings_15 (by decide) ?_
    exact rs_iret dX11_findings_19 rfl H
set_option maxRecDepth 20000 in
theorem en_X11_tells {g : OG} {d : Nat} {I : IT} {X : XT} {K : Int32 → IT → XT → Prop} {l1 : Int32} {l2 : Int32} 
    (H : ∀ I1 : IT, I1 = set2 I 129 2 l1 →
      K l2 I1 X) : CI g (d + 1) iX11_tells [rf g 129, .int l1, .int l2] I X K := by
  refine ocall_of (by decide) (Nat.le_of_ble_eq_true rfl) ?_
  show SR g (d + 1) iX11_tells 0 [(0, rf g 129), (1, .int l1), (2, .int l2)] I X (qI K)
  refine r_aload_n (n := 1) 0 dX11_tells_0 rfl rfl ?_
  refine r_iload_n (n := 2) 1 dX11_tells_1 rfl rfl ?_
  have H := H _ rfl
  refine rs_putI (n := 5) cls_10 2 fp_10_2 so_129 gw_1028 dX11_tells_2 rfl ?_
  refine r_iload_n (n := 6) 2 dX11_tells_5 rfl rfl ?_
  exact rs_iret dX11_tells_6 rfl H
set_option maxRecDepth 20000 in
theorem en_X11_asked {g : OG} {d : Nat} {I : IT} {X : XT} {K : Int32 → IT → XT → Prop}  
    (H : K (I 129 2) I X) : CI g (d + 1) iX11_asked [rf g 129] I X K := by
  refine ocall_of (by decide) (Nat.le_of_ble_eq_true rfl) ?_
  show SR g (d + 1) iX11_asked 0 [(0, rf g 129)] I X (qI K)
  refine r_aload_n (n := 1) 0 dX11_asked_0 rfl rfl ?_
  refine rs_getI (n := 4) cls_10 2 fi_10_2 so_129 gw_1028 dX11_asked_1 rfl ?_
  exact rs_iret dX11_asked_4 rfl H
set_option maxRecDepth 20000 in
theorem en_X11_fraction {g : OG} {d : Nat} {I : IT} {X : XT} {K : Int32 → IT → XT → Prop} {l1 : Int64} {l3 : Int64} 
    (H : SR g (d + 1) iX11_fraction 6 [(0, rf g 129), (1, .long l1), (3, .long l3), (5, .long l1), (7, .long l3)] I X (qI K)) : CI g (d + 1) iX11_fraction [rf g 129, .long l1, .long l3] I X K := by
  refine ocall_of (by decide) (Nat.le_of_ble_eq_true rfl) ?_
  show SR g (d + 1) iX11_fraction 0 [(0, rf g 129), (1, .long l1), (3, .long l3)] I X (qI K)
  refine r_lload_n (n := 1) 1 dX11_fraction_0 rfl rfl ?_
  refine r_lstore (n := 3) (lv' := [(5, .long _), (0, .ref _), (1, .long _), (3, .long _)]) dX11_fraction_1 (by decide) rfl rfl ?_
  refine r_lload_n (n := 4) 3 dX11_fraction_3 rfl rfl ?_
  refine r_lstore (n := 6) (lv' := [(7, .long _), (5, .long _), (0, .ref _), (1, .long _), (3, .long _)]) dX11_fraction_4 (by decide) rfl rfl ?_
  exact r_sub [2, 3, 4, 1, 0] rfl H
set_option maxRecDepth 20000 in
theorem rg_X11_fraction_6 {g : OG} {d : Nat} {I : IT} {X : XT} {K : Int32 → IT → XT → Prop} {l1 : Int64} {l3 : Int64} {l5 : Int64} {l7 : Int64} 
    (H : ((lg_cmp l7 0) = 0 →
        ¬ l5 = 0 ∧
        ∀ X2 : XT, X2 = (set2L X.1 129 3 (l1 / l5), X.2) →
        ¬ l5 = 0 ∧
        ∀ X4 : XT, X4 = (set2L X2.1 129 4 (l3 / l5), X2.2) →
        K 1 I X4) ∧
      (¬ (lg_cmp l7 0) = 0 →
        ¬ l7 = 0 ∧
        ∀ x6 : Int64, x6 = l5 - l5 / l7 * l7 →
        SR g (d + 1) iX11_fraction 6 [(0, rf g 129), (1, .long l1), (3, .long l3), (5, .long l7), (7, .long x6)] I X (qI K))) : SR g (d + 1) iX11_fraction 6 [(0, rf g 129), (1, .long l1), (3, .long l3), (5, .long l5), (7, .long l7)] I X (qI K) := by
  refine r_lload (n := 8) 4 dX11_fraction_6 rfl rfl ?_
  refine r_lconst (n := 9) (v := 0) dX11_fraction_8 (by decide) rfl ?_
  refine r_lcmp (n := 10) dX11_fraction_9 rfl ?_
  refine r_if_eq (n := 13) (tgt := 31) dX11_fraction_10 (by decide) rfl (fun c => ?_) (fun c => ?_)
  · have H := H.1 c
    refine r_aload_n (n := 32) 0 dX11_fraction_31 rfl rfl ?_
    refine r_lload_n (n := 33) 1 dX11_fraction_32 rfl rfl ?_
    refine r_lload (n := 35) 3 dX11_fraction_33 rfl rfl ?_
    obtain ⟨hz1, H⟩ := H
    refine r_ldiv (n := 36) dX11_fraction_35 hz1 rfl ?_
    have H := H _ rfl
    refine rs_putL (n := 39) cls_10 3 fp_10_3 so_129 gw_1029 dX11_fraction_36 rfl ?_
    refine r_aload_n (n := 40) 0 dX11_fraction_39 rfl rfl ?_
    refine r_lload_n (n := 41) 2 dX11_fraction_40 rfl rfl ?_
    refine r_lload (n := 43) 3 dX11_fraction_41 rfl rfl ?_
    obtain ⟨hz3, H⟩ := H
    refine r_ldiv (n := 44) dX11_fraction_43 hz3 rfl ?_
    have H := H _ rfl
    refine rs_putL (n := 47) cls_10 4 fp_10_4 so_129 gw_1030 dX11_fraction_44 rfl ?_
    refine r_iconst (n := 48) (v := 1) dX11_fraction_47 ki_1 rfl ?_
    exact rs_iret dX11_fraction_48 rfl H
  · have H := H.2 c
    refine r_lload (n := 15) 3 dX11_fraction_13 rfl rfl ?_
    refine r_lload (n := 17) 4 dX11_fraction_15 rfl rfl ?_
    obtain ⟨hz5, H⟩ := H
    refine r_lrem (n := 18) dX11_fraction_17 hz5 rfl ?_
    have H := H _ rfl
    refine r_lstore (n := 20) (lv' := [(9, .long _), (0, .ref _), (1, .long _), (3, .long _), (5, .long _), (7, .long _)]) dX11_fraction_18 (by decide) rfl rfl ?_
    refine r_lload (n := 22) 5 dX11_fraction_20 rfl rfl ?_
    refine r_lstore (n := 24) (lv' := [(5, .long _), (9, .long _), (0, .ref _), (1, .long _), (3, .long _), (7, .long _)]) dX11_fraction_22 (by decide) rfl rfl ?_
    refine r_lload (n := 26) 1 dX11_fraction_24 rfl rfl ?_
    refine r_lstore (n := 28) (lv' := [(7, .long _), (5, .long _), (9, .long _), (0, .ref _), (1, .long _), (3, .long _)]) dX11_fraction_26 (by decide) rfl rfl ?_
    refine r_goto (n := 6) dX11_fraction_28 (by decide) ?_
    exact r_sub [3, 4, 5, 1, 0] rfl H
set_option maxRecDepth 20000 in
theorem en_X11_upper {g : OG} {d : Nat} {I : IT} {X : XT} {K : Int64 → IT → XT → Prop}  
    (H : K (X.1 129 3) I X) : CL g (d + 1) iX11_upper [rf g 129] I X K := by
  refine ocall_of (by decide) (Nat.le_of_ble_eq_true rfl) ?_
  show SR g (d + 1) iX11_upper 0 [(0, rf g 129)] I X (qL K)
  refine r_aload_n (n := 1) 0 dX11_upper_0 rfl rfl ?_
  refine rs_getL (n := 4) cls_10 3 fi_10_3 so_129 gw_1029 dX11_upper_1 rfl ?_
  exact rs_lret dX11_upper_4 rfl H
set_option maxRecDepth 20000 in
theorem en_X11_lower {g : OG} {d : Nat} {I : IT} {X : XT} {K : Int64 → IT → XT → Prop}  
    (H : K (X.1 129 4) I X) : CL g (d + 1) iX11_lower [rf g 129] I X K := by
  refine ocall_of (by decide) (Nat.le_of_ble_eq_true rfl) ?_
  show SR g (d + 1) iX11_lower 0 [(0, rf g 129)] I X (qL K)
  refine r_aload_n (n := 1) 0 dX11_lower_0 rfl rfl ?_
  refine rs_getL (n := 4) cls_10 4 fi_10_4 so_129 gw_1030 dX11_lower_1 rfl ?_
  exact rs_lret dX11_lower_4 rfl H
set_option maxRecDepth 20000 in
theorem en_X11_isRow {g : OG} {d : Nat} {I : IT} {X : XT} {K : Int32 → IT → XT → Prop} {l0 : Int32} 
    (H : CI g d iX11_in [.int l0, .int 0, .int 5] I X (fun r1 I2 X3 =>
        (r1 = 0 ∨ r1 = 1) ∧ K r1 I2 X3)) : CI g (d + 1) iX11_isRow [.int l0] I X K := by
  refine ocall_of (by decide) (Nat.le_of_ble_eq_true rfl) ?_
  show SR g (d + 1) iX11_isRow 0 [(0, .int l0)] I X (qI K)
  refine r_iload_n (n := 1) 0 dX11_isRow_0 rfl rfl ?_
  refine r_iconst (n := 2) (v := 0) dX11_isRow_1 ki_0 rfl ?_
  refine r_iconst (n := 3) (v := 5) dX11_isRow_2 ki_5 rfl ?_
  refine rs_cSi (n := 6) (rest := []) (As := [.int _, .int _, .int _]) sm_X11_in gw_1150 dX11_isRow_3 rfl rfl (Nat.le_of_ble_eq_true rfl) rfl (CI.mono H (fun r1 I2 X3 H => ?_))
  exact rs_zret dX11_isRow_6 rfl H.1 H.2
set_option maxRecDepth 20000 in
theorem en_X11_rowAt {g : OG} {d : Nat} {I : IT} {X : XT} {K : Int32 → IT → XT → Prop} {l1 : Int32} {l2 : Int32} 
    (H : vp_in ((40 * l1) + l2) 240 ∧
      K (I 132 ((40 * l1) + l2).toNatClampNeg) I X) : CI g (d + 1) iX11_rowAt [rf g 129, .int l1, .int l2] I X K := by
  refine ocall_of (by decide) (Nat.le_of_ble_eq_true rfl) ?_
  show SR g (d + 1) iX11_rowAt 0 [(0, rf g 129), (1, .int l1), (2, .int l2)] I X (qI K)
  refine r_aload_n (n := 1) 0 dX11_rowAt_0 rfl rfl ?_
  refine r_getR (n := 4) cls_10 6 fi_10_6 so_129 gw_1032 dX11_rowAt_1 rfl sr_129_6 (by decide) ?_
  refine r_bipush (n := 6) (v := 40) dX11_rowAt_4 kb_40 rfl ?_
  refine r_iload_n (n := 7) 1 dX11_rowAt_6 rfl rfl ?_
  refine r_imul (n := 8) dX11_rowAt_7 rfl ?_
  refine r_iload_n (n := 9) 2 dX11_rowAt_8 rfl rfl ?_
  refine r_iadd (n := 10) dX11_rowAt_9 rfl ?_
  obtain ⟨hi1, H⟩ := H
  refine rs_iald (n := 11) sa_132 hi1 dX11_rowAt_10 rfl ?_
  exact rs_iret dX11_rowAt_11 rfl H
set_option maxRecDepth 20000 in
theorem en_X11_row {g : OG} {d : Nat} {I : IT} {X : XT} {K : Int32 → IT → XT → Prop} {l1 : Int32} {l2 : Int32} 
    (H : CI g d iX11_isRow [.int l1] I X (fun r1 I2 X3 =>
        (r1 = 0 →
          K ((-1)) I2 X3) ∧
        (¬ r1 = 0 →
          (l2 ≤ 40 →
            (0 ≤ l2 →
              vp_in l1 6 ∧
              ∀ I5 : IT, I5 = set2 I2 131 l1.toNatClampNeg l2 →
              SR g (d + 1) iX11_row 34 [(0, rf g 129), (1, .int l1), (2, .int l2), (3, .int 0)] I5 X3 (qI K)) ∧
            (¬ 0 ≤ l2 →
              CI g d iX11_meets [rf g 129, .int 5] I2 X3 (fun r6 I7 X8 =>
                K r6 I7 X8))) ∧
          (¬ l2 ≤ 40 →
            K ((-1)) I2 X3)))) : CI g (d + 1) iX11_row [rf g 129, .int l1, .int l2] I X K := by
  refine ocall_of (by decide) (Nat.le_of_ble_eq_true rfl) ?_
  show SR g (d + 1) iX11_row 0 [(0, rf g 129), (1, .int l1), (2, .int l2)] I X (qI K)
  refine r_iload_n (n := 1) 1 dX11_row_0 rfl rfl ?_
  refine rs_cSi (n := 4) (rest := []) (As := [.int _]) sm_X11_isRow gw_1169 dX11_row_1 rfl rfl (Nat.le_of_ble_eq_true rfl) rfl (CI.mono H (fun r1 I2 X3 H => ?_))
  refine r_if_eq (n := 7) (tgt := 13) dX11_row_4 (by decide) rfl (fun c => ?_) (fun c => ?_)
  · have H := H.1 c
    refine r_iconst (n := 14) (v := (-1)) dX11_row_13 ki_m1 rfl ?_
    exact rs_iret dX11_row_14 rfl H
  · have H := H.2 c
    refine r_iload_n (n := 8) 2 dX11_row_7 rfl rfl ?_
    refine r_bipush (n := 10) (v := 40) dX11_row_8 kb_40 rfl ?_
    refine r_icmp_le (n := 13) (tgt := 15) dX11_row_10 (by decide) rfl (fun c => ?_) (fun c => ?_)
    · have H := H.1 c
      refine r_iload_n (n := 16) 2 dX11_row_15 rfl rfl ?_
      refine r_if_ge (n := 19) (tgt := 25) dX11_row_16 (by decide) rfl (fun c => ?_) (fun c => ?_)
      · have H := H.1 c
        refine r_aload_n (n := 26) 0 dX11_row_25 rfl rfl ?_
        refine r_getR (n := 29) cls_10 5 fi_10_5 so_129 gw_1031 dX11_row_26 rfl sr_129_5 (by decide) ?_
        refine r_iload_n (n := 30) 1 dX11_row_29 rfl rfl ?_
        refine r_iload_n (n := 31) 2 dX11_row_30 rfl rfl ?_
        obtain ⟨hi4, H⟩ := H
        have H := H _ rfl
        refine rs_iast (n := 32) sa_131 hi4 dX11_row_31 rfl ?_
        refine r_iconst (n := 33) (v := 0) dX11_row_32 ki_0 rfl ?_
        refine r_istore_n (n := 34) (lv' := [(3, .int _), (0, .ref _), (1, .int _), (2, .int _)]) dX11_row_33 rfl (by decide) rfl rfl ?_
        exact r_sub [1, 2, 3, 0] rfl H
      · have H := H.2 c
        refine r_aload_n (n := 20) 0 dX11_row_19 rfl rfl ?_
        refine r_iconst (n := 21) (v := 5) dX11_row_20 ki_5 rfl ?_
        refine rs_cVi (n := 24) (rest := []) (As := [.int _]) vm_X11_meets gw_1172 so_129 cq_10 dX11_row_21 rfl rfl (Nat.le_of_ble_eq_true rfl) rfl (CI.mono H (fun r6 I7 X8 H => ?_))
        exact rs_iret dX11_row_24 rfl H
    · have H := H.2 c
      refine r_iconst (n := 14) (v := (-1)) dX11_row_13 ki_m1 rfl ?_
      exact rs_iret dX11_row_14 rfl H
set_option maxRecDepth 20000 in
theorem rg_X11_row_34 {g : OG} {d : Nat} {I : IT} {X : XT} {K : Int32 → IT → XT → Prop} {l1 : Int32} {l2 : Int32} {l3 : Int32} 
    (H : (40 ≤ l3 →
        K l2 I X) ∧
      (¬ 40 ≤ l3 →
        vp_in ((40 * l1) + l3) 240 ∧
        ∀ I2 : IT, I2 = set2 I 132 ((40 * l1) + l3).toNatClampNeg 0 →
        ∀ x3 : Int32, x3 = l3 + 1 →
        SR g (d + 1) iX11_row 34 [(0, rf g 129), (1, .int l1), (2, .int l2), (3, .int x3)] I2 X (qI K))) : SR g (d + 1) iX11_row 34 [(0, rf g 129), (1, .int l1), (2, .int l2), (3, .int l3)] I X (qI K) := by
  refine r_iload_n (n := 35) 3 dX11_row_34 rfl rfl ?_
  refine r_bipush (n := 37) (v := 40) dX11_row_35 kb_40 rfl ?_
  refine r_icmp_ge (n := 40) (tgt := 58) dX11_row_37 (by decide) rfl (fun c => ?_) (fun c => ?_)
  · have H := H.1 c
    refine r_iload_n (n := 59) 2 dX11_row_58 rfl rfl ?_
    exact rs_iret dX11_row_59 rfl H
  · have H := H.2 c
    refine r_aload_n (n := 41) 0 dX11_row_40 rfl rfl ?_
    refine r_getR (n := 44) cls_10 6 fi_10_6 so_129 gw_1032 dX11_row_41 rfl sr_129_6 (by decide) ?_
    refine r_bipush (n := 46) (v := 40) dX11_row_44 kb_40 rfl ?_
    refine r_iload_n (n := 47) 1 dX11_row_46 rfl rfl ?_
    refine r_imul (n := 48) dX11_row_47 rfl ?_
    refine r_iload_n (n := 49) 3 dX11_row_48 rfl rfl ?_
    refine r_iadd (n := 50) dX11_row_49 rfl ?_
    refine r_iconst (n := 51) (v := 0) dX11_row_50 ki_0 rfl ?_
    obtain ⟨hi1, H⟩ := H
    have H := H _ rfl
    refine rs_iast (n := 52) sa_132 hi1 dX11_row_51 rfl ?_
    have H := H _ rfl
    refine r_iinc (n := 55) (lv' := [(3, .int _), (0, .ref _), (1, .int _), (2, .int _)]) 3 dX11_row_52 rfl rfl (by decide) rfl rfl ?_
    refine r_goto (n := 34) dX11_row_55 (by decide) ?_
    exact r_sub [1, 2, 3, 0] rfl H
set_option maxRecDepth 20000 in
theorem en_X11_lay {g : OG} {d : Nat} {I : IT} {X : XT} {K : Int32 → IT → XT → Prop} {l1 : Int32} {l2 : Int32} {l3 : Int32} 
    (H : CI g d iX11_isRow [.int l1] I X (fun r1 I2 X3 =>
        (¬ r1 = 0 →
          vp_in l1 6 ∧
          (0 ≤ (I2 131 l1.toNatClampNeg) →
            vp_in l1 6 ∧
            CI g d iX11_in [.int l2, .int 0, .int ((I2 131 l1.toNatClampNeg) - 1)] I2 X3 (fun r6 I7 X8 =>
              (¬ r6 = 0 →
                CI g d iX11_rowAt [rf g 129, .int l1, .int l2] I7 X8 (fun r9 I10 X11 =>
                  vp_in ((40 * l1) + l2) 240 ∧
                  ∀ I13 : IT, I13 = set2 I10 132 ((40 * l1) + l2).toNatClampNeg l3 →
                  CI g d iX11_tells [rf g 129, .int r9, .int 1] I13 X11 (fun r14 I15 X16 =>
                    K r14 I15 X16))) ∧
              (r6 = 0 →
                CI g d iX11_meets [rf g 129, .int 2] I7 X8 (fun r17 I18 X19 =>
                  K r17 I18 X19)))) ∧
          (¬ 0 ≤ (I2 131 l1.toNatClampNeg) →
            CI g d iX11_meets [rf g 129, .int 1] I2 X3 (fun r20 I21 X22 =>
              K r20 I21 X22))) ∧
        (r1 = 0 →
          K ((-1)) I2 X3))) : CI g (d + 1) iX11_lay [rf g 129, .int l1, .int l2, .int l3] I X K := by
  refine ocall_of (by decide) (Nat.le_of_ble_eq_true rfl) ?_
  show SR g (d + 1) iX11_lay 0 [(0, rf g 129), (1, .int l1), (2, .int l2), (3, .int l3)] I X (qI K)
  refine r_iload_n (n := 1) 1 dX11_lay_0 rfl rfl ?_
  refine rs_cSi (n := 4) (rest := []) (As := [.int _]) sm_X11_isRow gw_1169 dX11_lay_1 rfl rfl (Nat.le_of_ble_eq_true rfl) rfl (CI.mono H (fun r1 I2 X3 H => ?_))
  refine r_if_ne (n := 7) (tgt := 9) dX11_lay_4 (by decide) rfl (fun c => ?_) (fun c => ?_)
  · have H := H.1 c
    refine r_aload_n (n := 10) 0 dX11_lay_9 rfl rfl ?_
    refine r_getR (n := 13) cls_10 5 fi_10_5 so_129 gw_1031 dX11_lay_10 rfl sr_129_5 (by decide) ?_
    refine r_iload_n (n := 14) 1 dX11_lay_13 rfl rfl ?_
    obtain ⟨hi4, H⟩ := H
    refine rs_iald (n := 15) sa_131 hi4 dX11_lay_14 rfl ?_
    refine r_if_ge (n := 18) (tgt := 24) dX11_lay_15 (by decide) rfl (fun c => ?_) (fun c => ?_)
    · have H := H.1 c
      refine r_iload_n (n := 25) 2 dX11_lay_24 rfl rfl ?_
      refine r_iconst (n := 26) (v := 0) dX11_lay_25 ki_0 rfl ?_
      refine r_aload_n (n := 27) 0 dX11_lay_26 rfl rfl ?_
      refine r_getR (n := 30) cls_10 5 fi_10_5 so_129 gw_1031 dX11_lay_27 rfl sr_129_5 (by decide) ?_
      refine r_iload_n (n := 31) 1 dX11_lay_30 rfl rfl ?_
      obtain ⟨hi5, H⟩ := H
      refine rs_iald (n := 32) sa_131 hi5 dX11_lay_31 rfl ?_
      refine r_iconst (n := 33) (v := 1) dX11_lay_32 ki_1 rfl ?_
      refine r_isub (n := 34) dX11_lay_33 rfl ?_
      refine rs_cSi (n := 37) (rest := []) (As := [.int _, .int _, .int _]) sm_X11_in gw_1150 dX11_lay_34 rfl rfl (Nat.le_of_ble_eq_true rfl) rfl (CI.mono H (fun r6 I7 X8 H => ?_))
      refine r_if_ne (n := 40) (tgt := 46) dX11_lay_37 (by decide) rfl (fun c => ?_) (fun c => ?_)
      · have H := H.1 c
        refine r_aload_n (n := 47) 0 dX11_lay_46 rfl rfl ?_
        refine r_iload_n (n := 48) 1 dX11_lay_47 rfl rfl ?_
        refine r_iload_n (n := 49) 2 dX11_lay_48 rfl rfl ?_
        refine rs_cVi (n := 52) (rest := []) (As := [.int _, .int _]) vm_X11_rowAt gw_1180 so_129 cq_10 dX11_lay_49 rfl rfl (Nat.le_of_ble_eq_true rfl) rfl (CI.mono H (fun r9 I10 X11 H => ?_))
        refine r_istore (n := 54) (lv' := [(4, .int _), (0, .ref _), (1, .int _), (2, .int _), (3, .int _)]) dX11_lay_52 (by decide) rfl rfl ?_
        refine r_aload_n (n := 55) 1 dX11_lay_54 rfl rfl ?_
        refine r_getR (n := 58) cls_10 6 fi_10_6 so_129 gw_1032 dX11_lay_55 rfl sr_129_6 (by decide) ?_
        refine r_bipush (n := 60) (v := 40) dX11_lay_58 kb_40 rfl ?_
        refine r_iload_n (n := 61) 2 dX11_lay_60 rfl rfl ?_
        refine r_imul (n := 62) dX11_lay_61 rfl ?_
        refine r_iload_n (n := 63) 3 dX11_lay_62 rfl rfl ?_
        refine r_iadd (n := 64) dX11_lay_63 rfl ?_
        refine r_iload_n (n := 65) 4 dX11_lay_64 rfl rfl ?_
        obtain ⟨hi12, H⟩ := H
        have H := H _ rfl
        refine rs_iast (n := 66) sa_132 hi12 dX11_lay_65 rfl ?_
        refine r_aload_n (n := 67) 1 dX11_lay_66 rfl rfl ?_
        refine r_iload (n := 69) 0 dX11_lay_67 rfl rfl ?_
        refine r_iconst (n := 70) (v := 1) dX11_lay_69 ki_1 rfl ?_
        refine rs_cVi (n := 73) (rest := []) (As := [.int _, .int _]) vm_X11_tells gw_1184 so_129 cq_10 dX11_lay_70 rfl rfl (Nat.le_of_ble_eq_true rfl) rfl (CI.mono H (fun r14 I15 X16 H => ?_))
        exact rs_iret dX11_lay_73 rfl H
      · have H := H.2 c
        refine r_aload_n (n := 41) 0 dX11_lay_40 rfl rfl ?_
        refine r_iconst (n := 42) (v := 2) dX11_lay_41 ki_2 rfl ?_
        refine rs_cVi (n := 45) (rest := []) (As := [.int _]) vm_X11_meets gw_1172 so_129 cq_10 dX11_lay_42 rfl rfl (Nat.le_of_ble_eq_true rfl) rfl (CI.mono H (fun r17 I18 X19 H => ?_))
        exact rs_iret dX11_lay_45 rfl H
    · have H := H.2 c
      refine r_aload_n (n := 19) 0 dX11_lay_18 rfl rfl ?_
      refine r_iconst (n := 20) (v := 1) dX11_lay_19 ki_1 rfl ?_
      refine rs_cVi (n := 23) (rest := []) (As := [.int _]) vm_X11_meets gw_1172 so_129 cq_10 dX11_lay_20 rfl rfl (Nat.le_of_ble_eq_true rfl) rfl (CI.mono H (fun r20 I21 X22 H => ?_))
      exact rs_iret dX11_lay_23 rfl H
  · have H := H.2 c
    refine r_iconst (n := 8) (v := (-1)) dX11_lay_7 ki_m1 rfl ?_
    exact rs_iret dX11_lay_8 rfl H
set_option maxRecDepth 20000 in
theorem en_X11_at {g : OG} {d : Nat} {I : IT} {X : XT} {K : Int32 → IT → XT → Prop} {l1 : Int32} {l2 : Int32} 
    (H : CI g d iX11_isRow [.int l1] I X (fun r1 I2 X3 =>
        (¬ r1 = 0 →
          vp_in l1 6 ∧
          (0 ≤ (I2 131 l1.toNatClampNeg) →
            vp_in l1 6 ∧
            CI g d iX11_in [.int l2, .int 0, .int ((I2 131 l1.toNatClampNeg) - 1)] I2 X3 (fun r6 I7 X8 =>
              (r6 = 0 →
                CI g d iX11_meets [rf g 129, .int 2] I7 X8 (fun r9 I10 X11 =>
                  K r9 I10 X11)) ∧
              (¬ r6 = 0 →
                CI g d iX11_rowAt [rf g 129, .int l1, .int l2] I7 X8 (fun r12 I13 X14 =>
                  CI g d iX11_tells [rf g 129, .int r12, .int 1] I13 X14 (fun r15 I16 X17 =>
                    K r15 I16 X17))))) ∧
          (¬ 0 ≤ (I2 131 l1.toNatClampNeg) →
            CI g d iX11_meets [rf g 129, .int 1] I2 X3 (fun r18 I19 X20 =>
              K r18 I19 X20))) ∧
        (r1 = 0 →
          K ((-1)) I2 X3))) : CI g (d + 1) iX11_at [rf g 129, .int l1, .int l2] I X K := by
  refine ocall_of (by decide) (Nat.le_of_ble_eq_true rfl) ?_
  show SR g (d + 1) iX11_at 0 [(0, rf g 129), (1, .int l1), (2, .int l2)] I X (qI K)
  refine r_iload_n (n := 1) 1 dX11_at_0 rfl rfl ?_
  refine rs_cSi (n := 4) (rest := []) (As := [.int _]) sm_X11_isRow gw_1169 dX11_at_1 rfl rfl (Nat.le_of_ble_eq_true rfl) rfl (CI.mono H (fun r1 I2 X3 H => ?_))
  refine r_if_ne (n := 7) (tgt := 9) dX11_at_4 (by decide) rfl (fun c => ?_) (fun c => ?_)
  · have H := H.1 c
    refine r_aload_n (n := 10) 0 dX11_at_9 rfl rfl ?_
    refine r_getR (n := 13) cls_10 5 fi_10_5 so_129 gw_1031 dX11_at_10 rfl sr_129_5 (by decide) ?_
    refine r_iload_n (n := 14) 1 dX11_at_13 rfl rfl ?_
    obtain ⟨hi4, H⟩ := H
    refine rs_iald (n := 15) sa_131 hi4 dX11_at_14 rfl ?_
    refine r_if_ge (n := 18) (tgt := 24) dX11_at_15 (by decide) rfl (fun c => ?_) (fun c => ?_)
    · have H := H.1 c
      refine r_iload_n (n := 25) 2 dX11_at_24 rfl rfl ?_
      refine r_iconst (n := 26) (v := 0) dX11_at_25 ki_0 rfl ?_
      refine r_aload_n (n := 27) 0 dX11_at_26 rfl rfl ?_
      refine r_getR (n := 30) cls_10 5 fi_10_5 so_129 gw_1031 dX11_at_27 rfl sr_129_5 (by decide) ?_
      refine r_iload_n (n := 31) 1 dX11_at_30 rfl rfl ?_
      obtain ⟨hi5, H⟩ := H
      refine rs_iald (n := 32) sa_131 hi5 dX11_at_31 rfl ?_
      refine r_iconst (n := 33) (v := 1) dX11_at_32 ki_1 rfl ?_
      refine r_isub (n := 34) dX11_at_33 rfl ?_
      refine rs_cSi (n := 37) (rest := []) (As := [.int _, .int _, .int _]) sm_X11_in gw_1150 dX11_at_34 rfl rfl (Nat.le_of_ble_eq_true rfl) rfl (CI.mono H (fun r6 I7 X8 H => ?_))
      refine r_if_eq (n := 40) (tgt := 54) dX11_at_37 (by decide) rfl (fun c => ?_) (fun c => ?_)
      · have H := H.1 c
        refine r_aload_n (n := 55) 0 dX11_at_54 rfl rfl ?_
        refine r_iconst (n := 56) (v := 2) dX11_at_55 ki_2 rfl ?_
        refine rs_cVi (n := 59) (rest := []) (As := [.int _]) vm_X11_meets gw_1172 so_129 cq_10 dX11_at_56 rfl rfl (Nat.le_of_ble_eq_true rfl) rfl (CI.mono H (fun r9 I10 X11 H => ?_))
        exact rs_iret dX11_at_59 rfl H
      · have H := H.2 c
        refine r_aload_n (n := 41) 0 dX11_at_40 rfl rfl ?_
        refine r_aload_n (n := 42) 0 dX11_at_41 rfl rfl ?_
        refine r_iload_n (n := 43) 1 dX11_at_42 rfl rfl ?_
        refine r_iload_n (n := 44) 2 dX11_at_43 rfl rfl ?_
        refine rs_cVi (n := 47) (rest := [.ref _]) (As := [.int _, .int _]) vm_X11_rowAt gw_1180 so_129 cq_10 dX11_at_44 rfl rfl (Nat.le_of_ble_eq_true rfl) rfl (CI.mono H (fun r12 I13 X14 H => ?_))
        refine r_iconst (n := 48) (v := 1) dX11_at_47 ki_1 rfl ?_
        refine rs_cVi (n := 51) (rest := []) (As := [.int _, .int _]) vm_X11_tells gw_1184 so_129 cq_10 dX11_at_48 rfl rfl (Nat.le_of_ble_eq_true rfl) rfl (CI.mono H (fun r15 I16 X17 H => ?_))
        refine r_goto (n := 59) dX11_at_51 (by decide) ?_
        exact rs_iret dX11_at_59 rfl H
    · have H := H.2 c
      refine r_aload_n (n := 19) 0 dX11_at_18 rfl rfl ?_
      refine r_iconst (n := 20) (v := 1) dX11_at_19 ki_1 rfl ?_
      refine rs_cVi (n := 23) (rest := []) (As := [.int _]) vm_X11_meets gw_1172 so_129 cq_10 dX11_at_20 rfl rfl (Nat.le_of_ble_eq_true rfl) rfl (CI.mono H (fun r18 I19 X20 H => ?_))
      exact rs_iret dX11_at_23 rfl H
  · have H := H.2 c
    refine r_iconst (n := 8) (v := (-1)) dX11_at_7 ki_m1 rfl ?_
    exact rs_iret dX11_at_8 rfl H
set_option maxRecDepth 20000 in
theorem en_X11_tear {g : OG} {d : Nat} {I : IT} {X : XT} {K : Int32 → IT → XT → Prop} {l1 : Int32} 
    (H : CI g d iX11_isRow [.int l1] I X (fun r1 I2 X3 =>
        (¬ r1 = 0 →
          vp_in l1 6 ∧
          (0 ≤ (I2 131 l1.toNatClampNeg) →
            vp_in l1 6 ∧
            ∀ I6 : IT, I6 = set2 I2 131 l1.toNatClampNeg ((-1)) →
            K 1 I6 X3) ∧
          (¬ 0 ≤ (I2 131 l1.toNatClampNeg) →
            CI g d iX11_meets [rf g 129, .int 1] I2 X3 (fun r7 I8 X9 =>
              K r7 I8 X9))) ∧
        (r1 = 0 →
          K ((-1)) I2 X3))) : CI g (d + 1) iX11_tear [rf g 129, .int l1] I X K := by
  refine ocall_of (by decide) (Nat.le_of_ble_eq_true rfl) ?_
  show SR g (d + 1) iX11_tear 0 [(0, rf g 129), (1, .int l1)] I X (qI K)
  refine r_iload_n (n := 1) 1 dX11_tear_0 rfl rfl ?_
  refine rs_cSi (n := 4) (rest := []) (As := [.int _]) sm_X11_isRow gw_1169 dX11_tear_1 rfl rfl (Nat.le_of_ble_eq_true rfl) rfl (CI.mono H (fun r1 I2 X3 H => ?_))
  refine r_if_ne (n := 7) (tgt := 9) dX11_tear_4 (by decide) rfl (fun c => ?_) (fun c => ?_)
  · have H := H.1 c
    refine r_aload_n (n := 10) 0 dX11_tear_9 rfl rfl ?_
    refine r_getR (n := 13) cls_10 5 fi_10_5 so_129 gw_1031 dX11_tear_10 rfl sr_129_5 (by decide) ?_
    refine r_iload_n (n := 14) 1 dX11_tear_13 rfl rfl ?_
    obtain ⟨hi4, H⟩ := H
    refine rs_iald (n := 15) sa_131 hi4 dX11_tear_14 rfl ?_
    refine r_if_ge (n := 18) (tgt := 24) dX11_tear_15 (by decide) rfl (fun c => ?_) (fun c => ?_)
    · have H := H.1 c
      refine r_aload_n (n := 25) 0 dX11_tear_24 rfl rfl ?_
      refine r_getR (n := 28) cls_10 5 fi_10_5 so_129 gw_1031 dX11_tear_25 rfl sr_129_5 (by decide) ?_
      refine r_iload_n (n := 29) 1 dX11_tear_28 rfl rfl ?_
      refine r_iconst (n := 30) (v := (-1)) dX11_tear_29 ki_m1 rfl ?_
      obtain ⟨hi5, H⟩ := H
      have H := H _ rfl
      refine rs_iast (n := 31) sa_131 hi5 dX11_tear_30 rfl ?_
      refine r_iconst (n := 32) (v := 1) dX11_tear_31 ki_1 rfl ?_
      exact rs_iret dX11_tear_32 rfl H
    · have H := H.2 c
      refine r_aload_n (n := 19) 0 dX11_tear_18 rfl rfl ?_
      refine r_iconst (n := 20) (v := 1) dX11_tear_19 ki_1 rfl ?_
      refine rs_cVi (n := 23) (rest := []) (As := [.int _]) vm_X11_meets gw_1172 so_129 cq_10 dX11_tear_20 rfl rfl (Nat.le_of_ble_eq_true rfl) rfl (CI.mono H (fun r7 I8 X9 H => ?_))
      exact rs_iret dX11_tear_23 rfl H
  · have H := H.2 c
    refine r_iconst (n := 8) (v := (-1)) dX11_tear_7 ki_m1 rfl ?_
    exact rs_iret dX11_tear_8 rfl H
set_option maxRecDepth 20000 in
theorem en_X11_copy {g : OG} {d : Nat} {I : IT} {X : XT} {K : Int32 → IT → XT → Prop} {l1 : Int32} {l2 : Int32} {l3 : Int32} {l4 : Int32} {l5 : Int32} 
    (H : CI g d iX11_isRow [.int l1] I X (fun r1 I2 X3 =>
        (r1 = 0 →
          K ((-1)) I2 X3) ∧
        (¬ r1 = 0 →
          CI g d iX11_isRow [.int l3] I2 X3 (fun r4 I5 X6 =>
            (¬ r4 = 0 →
              (0 ≤ l5 →
                vp_in l1 6 ∧
                ((I5 131 l1.toNatClampNeg) < 0 →
                  CI g d iX11_meets [rf g 129, .int 1] I5 X6 (fun r8 I9 X10 =>
                    K r8 I9 X10)) ∧
                (¬ (I5 131 l1.toNatClampNeg) < 0 →
                  vp_in l3 6 ∧
                  (0 ≤ (I5 131 l3.toNatClampNeg) →
                    (l2 < 0 →
                      CI g d iX11_meets [rf g 129, .int 2] I5 X6 (fun r12 I13 X14 =>
                        K r12 I13 X14)) ∧
                    (¬ l2 < 0 →
                      (l4 < 0 →
                        CI g d iX11_meets [rf g 129, .int 2] I5 X6 (fun r15 I16 X17 =>
                          K r15 I16 X17)) ∧
                      (¬ l4 < 0 →
                        vp_in l1 6 ∧
                        (0 < (lg_cmp (l2.toInt64 + l5.toInt64) ((I5 131 l1.toNatClampNeg).toInt64)) →
                          CI g d iX11_meets [rf g 129, .int 2] I5 X6 (fun r19 I20 X21 =>
                            K r19 I20 X21)) ∧
                        (¬ 0 < (lg_cmp (l2.toInt64 + l5.toInt64) ((I5 131 l1.toNatClampNeg).toInt64)) →
                          vp_in l3 6 ∧
                          ((lg_cmp (l4.toInt64 + l5.toInt64) ((I5 131 l3.toNatClampNeg).toInt64)) ≤ 0 →
                            SR g (d + 1) iX11_copy 104 [(0, rf g 129), (1, .int l1), (2, .int l2), (3, .int l3), (4, .int l4), (5, .int l5), (6, .int 0)] I5 X6 (qI K)) ∧
                          (¬ (lg_cmp (l4.toInt64 + l5.toInt64) ((I5 131 l3.toNatClampNeg).toInt64)) ≤ 0 →
                            CI g d iX11_meets [rf g 129, .int 2] I5 X6 (fun r23 I24 X25 =>
                              K r23 I24 X25)))))) ∧
                  (¬ 0 ≤ (I5 131 l3.toNatClampNeg) →
                    CI g d iX11_meets [rf g 129, .int 1] I5 X6 (fun r26 I27 X28 =>
                      K r26 I27 X28)))) ∧
              (¬ 0 ≤ l5 →
                CI g d iX11_meets [rf g 129, .int 5] I5 X6 (fun r29 I30 X31 =>
                  K r29 I30 X31))) ∧
            (r4 = 0 →
              K ((-1)) I5 X6))))) : CI g (d + 1) iX11_copy [rf g 129, .int l1, .int l2, .int l3, .int l4, .int l5] I X K := by
  refine ocall_of (by decide) (Nat.le_of_ble_eq_true rfl) ?_
  show SR g (d + 1) iX11_copy 0 [(0, rf g 129), (1, .int l1), (2, .int l2), (3, .int l3), (4, .int l4), (5, .int l5)] I X (qI K)
  refine r_iload_n (n := 1) 1 dX11_copy_0 rfl rfl ?_
  refine rs_cSi (n := 4) (rest := []) (As := [.int _]) sm_X11_isRow gw_1169 dX11_copy_1 rfl rfl (Nat.le_of_ble_eq_true rfl) rfl (CI.mono H (fun r1 I2 X3 H => ?_))
  refine r_if_eq (n := 7) (tgt := 14) dX11_copy_4 (by decide) rfl (fun c => ?_) (fun c => ?_)
  · have H := H.1 c
    refine r_iconst (n := 15) (v := (-1)) dX11_copy_14 ki_m1 rfl ?_
    exact rs_iret dX11_copy_15 rfl H
  · have H := H.2 c
    refine r_iload_n (n := 8) 3 dX11_copy_7 rfl rfl ?_
    refine rs_cSi (n := 11) (rest := []) (As := [.int _]) sm_X11_isRow gw_1169 dX11_copy_8 rfl rfl (Nat.le_of_ble_eq_true rfl) rfl (CI.mono H (fun r4 I5 X6 H => ?_))
    refine r_if_ne (n := 14) (tgt := 16) dX11_copy_11 (by decide) rfl (fun c => ?_) (fun c => ?_)
    · have H := H.1 c
      refine r_iload (n := 18) 5 dX11_copy_16 rfl rfl ?_
      refine r_if_ge (n := 21) (tgt := 27) dX11_copy_18 (by decide) rfl (fun c => ?_) (fun c => ?_)
      · have H := H.1 c
        refine r_aload_n (n := 28) 0 dX11_copy_27 rfl rfl ?_
        refine r_getR (n := 31) cls_10 5 fi_10_5 so_129 gw_1031 dX11_copy_28 rfl sr_129_5 (by decide) ?_
        refine r_iload_n (n := 32) 1 dX11_copy_31 rfl rfl ?_
        obtain ⟨hi7, H⟩ := H
        refine rs_iald (n := 33) sa_131 hi7 dX11_copy_32 rfl ?_
        refine r_if_lt (n := 36) (tgt := 45) dX11_copy_33 (by decide) rfl (fun c => ?_) (fun c => ?_)
        · have H := H.1 c
          refine r_aload_n (n := 46) 0 dX11_copy_45 rfl rfl ?_
          refine r_iconst (n := 47) (v := 1) dX11_copy_46 ki_1 rfl ?_
          refine rs_cVi (n := 50) (rest := []) (As := [.int _]) vm_X11_meets gw_1172 so_129 cq_10 dX11_copy_47 rfl rfl (Nat.le_of_ble_eq_true rfl) rfl (CI.mono H (fun r8 I9 X10 H => ?_))
          exact rs_iret dX11_copy_50 rfl H
        · have H := H.2 c
          refine r_aload_n (n := 37) 0 dX11_copy_36 rfl rfl ?_
          refine r_getR (n := 40) cls_10 5 fi_10_5 so_129 gw_1031 dX11_copy_37 rfl sr_129_5 (by decide) ?_
          refine r_iload_n (n := 41) 3 dX11_copy_40 rfl rfl ?_
          obtain ⟨hi11, H⟩ := H
          refine rs_iald (n := 42) sa_131 hi11 dX11_copy_41 rfl ?_
          refine r_if_ge (n := 45) (tgt := 51) dX11_copy_42 (by decide) rfl (fun c => ?_) (fun c => ?_)
          · have H := H.1 c
            refine r_iload_n (n := 52) 2 dX11_copy_51 rfl rfl ?_
            refine r_if_lt (n := 55) (tgt := 95) dX11_copy_52 (by decide) rfl (fun c => ?_) (fun c => ?_)
            · have H := H.1 c
              refine r_aload_n (n := 96) 0 dX11_copy_95 rfl rfl ?_
              refine r_iconst (n := 97) (v := 2) dX11_copy_96 ki_2 rfl ?_
              refine rs_cVi (n := 100) (rest := []) (As := [.int _]) vm_X11_meets gw_1172 so_129 cq_10 dX11_copy_97 rfl rfl (Nat.le_of_ble_eq_true rfl) rfl (CI.mono H (fun r12 I13 X14 H => ?_))
              exact rs_iret dX11_copy_100 rfl H
            · have H := H.2 c
              refine r_iload (n := 57) 4 dX11_copy_55 rfl rfl ?_
              refine r_if_lt (n := 60) (tgt := 95) dX11_copy_57 (by decide) rfl (fun c => ?_) (fun c => ?_)
              · have H := H.1 c
                refine r_aload_n (n := 96) 0 dX11_copy_95 rfl rfl ?_
                refine r_iconst (n := 97) (v := 2) dX11_copy_96 ki_2 rfl ?_
                refine rs_cVi (n := 100) (rest := []) (As := [.int _]) vm_X11_meets gw_1172 so_129 cq_10 dX11_copy_97 rfl rfl (Nat.le_of_ble_eq_true rfl) rfl (CI.mono H (fun r15 I16 X17 H => ?_))
                exact rs_iret dX11_copy_100 rfl H
              · have H := H.2 c
                refine r_iload_n (n := 61) 2 dX11_copy_60 rfl rfl ?_
                refine r_i2l (n := 62) dX11_copy_61 rfl ?_
                refine r_iload (n := 64) 5 dX11_copy_62 rfl rfl ?_
                refine r_i2l (n := 65) dX11_copy_64 rfl ?_
                refine r_ladd (n := 66) dX11_copy_65 rfl ?_
                refine r_aload_n (n := 67) 0 dX11_copy_66 rfl rfl ?_
                refine r_getR (n := 70) cls_10 5 fi_10_5 so_129 gw_1031 dX11_copy_67 rfl sr_129_5 (by decide) ?_
                refine r_iload_n (n := 71) 1 dX11_copy_70 rfl rfl ?_
                obtain ⟨hi18, H⟩ := H
                refine rs_iald (n := 72) sa_131 hi18 dX11_copy_71 rfl ?_
                refine r_i2l (n := 73) dX11_copy_72 rfl ?_
                refine r_lcmp (n := 74) dX11_copy_73 rfl ?_
                refine r_if_gt (n := 77) (tgt := 95) dX11_copy_74 (by decide) rfl (fun c => ?_) (fun c => ?_)
                · have H := H.1 c
                  refine r_aload_n (n := 96) 0 dX11_copy_95 rfl rfl ?_
                  refine r_iconst (n := 97) (v := 2) dX11_copy_96 ki_2 rfl ?_
                  refine rs_cVi (n := 100) (rest := []) (As := [.int _]) vm_X11_meets gw_1172 so_129 cq_10 dX11_copy_97 rfl rfl (Nat.le_of_ble_eq_true rfl) rfl (CI.mono H (fun r19 I20 X21 H => ?_))
                  exact rs_iret dX11_copy_100 rfl H
                · have H := H.2 c
                  refine r_iload (n := 79) 4 dX11_copy_77 rfl rfl ?_
                  refine r_i2l (n := 80) dX11_copy_79 rfl ?_
                  refine r_iload (n := 82) 5 dX11_copy_80 rfl rfl ?_
                  refine r_i2l (n := 83) dX11_copy_82 rfl ?_
                  refine r_ladd (n := 84) dX11_copy_83 rfl ?_
                  refine r_aload_n (n := 85) 0 dX11_copy_84 rfl rfl ?_
                  refine r_getR (n := 88) cls_10 5 fi_10_5 so_129 gw_1031 dX11_copy_85 rfl sr_129_5 (by decide) ?_
                  refine r_iload_n (n := 89) 3 dX11_copy_88 rfl rfl ?_
                  obtain ⟨hi22, H⟩ := H
                  refine rs_iald (n := 90) sa_131 hi22 dX11_copy_89 rfl ?_
                  refine r_i2l (n := 91) dX11_copy_90 rfl ?_
                  refine r_lcmp (n := 92) dX11_copy_91 rfl ?_
                  refine r_if_le (n := 95) (tgt := 101) dX11_copy_92 (by decide) rfl (fun c => ?_) (fun c => ?_)
                  · have H := H.1 c
                    refine r_iconst (n := 102) (v := 0) dX11_copy_101 ki_0 rfl ?_
                    refine r_istore (n := 104) (lv' := [(6, .int _), (0, .ref _), (1, .int _), (2, .int _), (3, .int _), (4, .int _), (5, .int _)]) dX11_copy_102 (by decide) rfl rfl ?_
                    exact r_sub [1, 2, 3, 4, 5, 6, 0] rfl H
                  · have H := H.2 c
                    refine r_aload_n (n := 96) 0 dX11_copy_95 rfl rfl ?_
                    refine r_iconst (n := 97) (v := 2) dX11_copy_96 ki_2 rfl ?_
                    refine rs_cVi (n := 100) (rest := []) (As := [.int _]) vm_X11_meets gw_1172 so_129 cq_10 dX11_copy_97 rfl rfl (Nat.le_of_ble_eq_true rfl) rfl (CI.mono H (fun r23 I24 X25 H => ?_))
                    exact rs_iret dX11_copy_100 rfl H
          · have H := H.2 c
            refine r_aload_n (n := 46) 0 dX11_copy_45 rfl rfl ?_
            refine r_iconst (n := 47) (v := 1) dX11_copy_46 ki_1 rfl ?_
            refine rs_cVi (n := 50) (rest := []) (As := [.int _]) vm_X11_meets gw_1172 so_129 cq_10 dX11_copy_47 rfl rfl (Nat.le_of_ble_eq_true rfl) rfl (CI.mono H (fun r26 I27 X28 H => ?_))
            exact rs_iret dX11_copy_50 rfl H
      · have H := H.2 c
        refine r_aload_n (n := 22) 0 dX11_copy_21 rfl rfl ?_
        refine r_iconst (n := 23) (v := 5) dX11_copy_22 ki_5 rfl ?_
        refine rs_cVi (n := 26) (rest := []) (As := [.int _]) vm_X11_meets gw_1172 so_129 cq_10 dX11_copy_23 rfl rfl (Nat.le_of_ble_eq_true rfl) rfl (CI.mono H (fun r29 I30 X31 H => ?_))
        exact rs_iret dX11_copy_26 rfl H
    · have H := H.2 c
      refine r_iconst (n := 15) (v := (-1)) dX11_copy_14 ki_m1 rfl ?_
      exact rs_iret dX11_copy_15 rfl H
set_option maxRecDepth 20000 in
theorem rg_X11_copy_104 {g : OG} {d : Nat} {I : IT} {X : XT} {K : Int32 → IT → XT → Prop} {l1 : Int32} {l2 : Int32} {l3 : Int32} {l4 : Int32} {l5 : Int32} {l6 : Int32} 
    (H : (l5 ≤ l6 →
        SR g (d + 1) iX11_copy 136 [(0, rf g 129), (3, .int l3), (4, .int l4), (5, .int l5), (6, .int 0)] I X (qI K)) ∧
      (¬ l5 ≤ l6 →
        CI g d iX11_rowAt [rf g 129, .int l1, .int (l2 + l6)] I X (fun r1 I2 X3 =>
          vp_in l6 40 ∧
          ∀ I5 : IT, I5 = set2 I2 133 l6.toNatClampNeg r1 →
          ∀ x6 : Int32, x6 = l6 + 1 →
          SR g (d + 1) iX11_copy 104 [(0, rf g 129), (1, .int l1), (2, .int l2), (3, .int l3), (4, .int l4), (5, .int l5), (6, .int x6)] I5 X3 (qI K)))) : SR g (d + 1) iX11_copy 104 [(0, rf g 129), (1, .int l1), (2, .int l2), (3, .int l3), (4, .int l4), (5, .int l5), (6, .int l6)] I X (qI K) := by
  refine r_iload (n := 106) 6 dX11_copy_104 rfl rfl ?_
  refine r_iload (n := 108) 5 dX11_copy_106 rfl rfl ?_
  refine r_icmp_ge (n := 111) (tgt := 133) dX11_copy_108 (by decide) rfl (fun c => ?_) (fun c => ?_)
  · have H := H.1 c
    refine r_iconst (n := 134) (v := 0) dX11_copy_133 ki_0 rfl ?_
    refine r_istore (n := 136) (lv' := [(6, .int _), (0, .ref _), (1, .int _), (2, .int _), (3, .int _), (4, .int _), (5, .int _)]) dX11_copy_134 (by decide) rfl rfl ?_
    exact r_sub [1, 4, 5, 6, 0] rfl H
  · have H := H.2 c
    refine r_aload_n (n := 112) 0 dX11_copy_111 rfl rfl ?_
    refine r_getR (n := 115) cls_10 7 fi_10_7 so_129 gw_1033 dX11_copy_112 rfl sr_129_7 (by decide) ?_
    refine r_iload (n := 117) 6 dX11_copy_115 rfl rfl ?_
    refine r_aload_n (n := 118) 0 dX11_copy_117 rfl rfl ?_
    refine r_iload_n (n := 119) 1 dX11_copy_118 rfl rfl ?_
    refine r_iload_n (n := 120) 2 dX11_copy_119 rfl rfl ?_
    refine r_iload (n := 122) 6 dX11_copy_120 rfl rfl ?_
    refine r_iadd (n := 123) dX11_copy_122 rfl ?_
    refine rs_cVi (n := 126) (rest := [.int _, .ref _]) (As := [.int _, .int _]) vm_X11_rowAt gw_1180 so_129 cq_10 dX11_copy_123 rfl rfl (Nat.le_of_ble_eq_true rfl) rfl (CI.mono H (fun r1 I2 X3 H => ?_))
    obtain ⟨hi4, H⟩ := H
    have H := H _ rfl
    refine rs_iast (n := 127) sa_133 hi4 dX11_copy_126 rfl ?_
    have H := H _ rfl
    refine r_iinc (n := 130) (lv' := [(6, .int _), (0, .ref _), (1, .int _), (2, .int _), (3, .int _), (4, .int _), (5, .int _)]) 6 dX11_copy_127 rfl rfl (by decide) rfl rfl ?_
    refine r_goto (n := 104) dX11_copy_130 (by decide) ?_
    exact r_sub [1, 2, 3, 4, 5, 6, 0] rfl H
set_option maxRecDepth 20000 in
theorem rg_X11_copy_136 {g : OG} {d : Nat} {I : IT} {X : XT} {K : Int32 → IT → XT → Prop} {l3 : Int32} {l4 : Int32} {l5 : Int32} {l6 : Int32} 
    (H : (l5 ≤ l6 →
        K 1 I X) ∧
      (¬ l5 ≤ l6 →
        vp_in l6 40 ∧
        vp_in (((40 * l3) + l4) + l6) 240 ∧
        ∀ I3 : IT, I3 = set2 I 132 (((40 * l3) + l4) + l6).toNatClampNeg (I 133 l6.toNatClampNeg) →
        ∀ x4 : Int32, x4 = l6 + 1 →
        SR g (d + 1) iX11_copy 136 [(0, rf g 129), (3, .int l3), (4, .int l4), (5, .int l5), (6, .int x4)] I3 X (qI K))) : SR g (d + 1) iX11_copy 136 [(0, rf g 129), (3, .int l3), (4, .int l4), (5, .int l5), (6, .int l6)] I X (qI K) := by
  refine r_iload (n := 138) 4 dX11_copy_136 rfl rfl ?_
  refine r_iload (n := 140) 3 dX11_copy_138 rfl rfl ?_
  refine r_icmp_ge (n := 143) (tgt := 171) dX11_copy_140 (by decide) rfl (fun c => ?_) (fun c => ?_)
  · have H := H.1 c
    refine r_iconst (n := 172) (v := 1) dX11_copy_171 ki_1 rfl ?_
    exact rs_iret dX11_copy_172 rfl H
  · have H := H.2 c
    refine r_aload_n (n := 144) 0 dX11_copy_143 rfl rfl ?_
    refine r_getR (n := 147) cls_10 6 fi_10_6 so_129 gw_1032 dX11_copy_144 rfl sr_129_6 (by decide) ?_
    refine r_bipush (n := 149) (v := 40) dX11_copy_147 kb_40 rfl ?_
    refine r_iload_n (n := 150) 1 dX11_copy_149 rfl rfl ?_
    refine r_imul (n := 151) dX11_copy_150 rfl ?_
    refine r_iload (n := 153) 2 dX11_copy_151 rfl rfl ?_
    refine r_iadd (n := 154) dX11_copy_153 rfl ?_
    refine r_iload (n := 156) 4 dX11_copy_154 rfl rfl ?_
    refine r_iadd (n := 157) dX11_copy_156 rfl ?_
    refine r_aload_n (n := 158) 0 dX11_copy_157 rfl rfl ?_
    refine r_getR (n := 161) cls_10 7 fi_10_7 so_129 gw_1033 dX11_copy_158 rfl sr_129_7 (by decide) ?_
    refine r_iload (n := 163) 4 dX11_copy_161 rfl rfl ?_
    obtain ⟨hi1, H⟩ := H
    refine rs_iald (n := 164) sa_133 hi1 dX11_copy_163 rfl ?_
    obtain ⟨hi2, H⟩ := H
    have H := H _ rfl
    refine rs_iast (n := 165) sa_132 hi2 dX11_copy_164 rfl ?_
    have H := H _ rfl
    refine r_iinc (n := 168) (lv' := [(6, .int _), (0, .ref _), (3, .int _), (4, .int _), (5, .int _)]) 4 dX11_copy_165 rfl rfl (by decide) rfl rfl ?_
    refine r_goto (n := 136) dX11_copy_168 (by decide) ?_
    exact r_sub [1, 2, 3, 4, 0] rfl H
set_option maxRecDepth 20000 in
theorem en_X11_mean {g : OG} {d : Nat} {I : IT} {X : XT} {K : Int32 → IT → XT → Prop} {l1 : Int32} 
    (H : CI g d iX11_isRow [.int l1] I X (fun r1 I2 X3 =>
        (¬ r1 = 0 →
          vp_in l1 6 ∧
          (0 ≤ (I2 131 l1.toNatClampNeg) →
            vp_in l1 6 ∧
            (¬ (I2 131 l1.toNatClampNeg) = 0 →
              SR g (d + 1) iX11_mean 44 [(0, rf g 129), (1, .int l1), (2, .long 0), (4, .int 0)] I2 X3 (qI K)) ∧
            ((I2 131 l1.toNatClampNeg) = 0 →
              CI g d iX11_meets [rf g 129, .int 4] I2 X3 (fun r6 I7 X8 =>
                K r6 I7 X8))) ∧
          (¬ 0 ≤ (I2 131 l1.toNatClampNeg) →
            CI g d iX11_meets [rf g 129, .int 1] I2 X3 (fun r9 I10 X11 =>
              K r9 I10 X11))) ∧
        (r1 = 0 →
          K ((-1)) I2 X3))) : CI g (d + 1) iX11_mean [rf g 129, .int l1] I X K := by
  refine ocall_of (by decide) (Nat.le_of_ble_eq_true rfl) ?_
  show SR g (d + 1) iX11_mean 0 [(0, rf g 129), (1, .int l1)] I X (qI K)
  refine r_iload_n (n := 1) 1 dX11_mean_0 rfl rfl ?_
  refine rs_cSi (n := 4) (rest := []) (As := [.int _]) sm_X11_isRow gw_1169 dX11_mean_1 rfl rfl (Nat.le_of_ble_eq_true rfl) rfl (CI.mono H (fun r1 I2 X3 H => ?_))
  refine r_if_ne (n := 7) (tgt := 9) dX11_mean_4 (by decide) rfl (fun c => ?_) (fun c => ?_)
  · have H := H.1 c
    refine r_aload_n (n := 10) 0 dX11_mean_9 rfl rfl ?_
    refine r_getR (n := 13) cls_10 5 fi_10_5 so_129 gw_1031 dX11_mean_10 rfl sr_129_5 (by decide) ?_
    refine r_iload_n (n := 14) 1 dX11_mean_13 rfl rfl ?_
    obtain ⟨hi4, H⟩ := H
    refine rs_iald (n := 15) sa_131 hi4 dX11_mean_14 rfl ?_
    refine r_if_ge (n := 18) (tgt := 24) dX11_mean_15 (by decide) rfl (fun c => ?_) (fun c => ?_)
    · have H := H.1 c
      refine r_aload_n (n := 25) 0 dX11_mean_24 rfl rfl ?_
      refine r_getR (n := 28) cls_10 5 fi_10_5 so_129 gw_1031 dX11_mean_25 rfl sr_129_5 (by decide) ?_
      refine r_iload_n (n := 29) 1 dX11_mean_28 rfl rfl ?_
      obtain ⟨hi5, H⟩ := H
      refine rs_iald (n := 30) sa_131 hi5 dX11_mean_29 rfl ?_
      refine r_if_ne (n := 33) (tgt := 39) dX11_mean_30 (by decide) rfl (fun c => ?_) (fun c => ?_)
      · have H := H.1 c
        refine r_lconst (n := 40) (v := 0) dX11_mean_39 (by decide) rfl ?_
        refine r_lstore_n (n := 41) (lv' := [(2, .long _), (0, .ref _), (1, .int _)]) dX11_mean_40 rfl (by decide) rfl rfl ?_
        refine r_iconst (n := 42) (v := 0) dX11_mean_41 ki_0 rfl ?_
        refine r_istore (n := 44) (lv' := [(4, .int _), (2, .long _), (0, .ref _), (1, .int _)]) dX11_mean_42 (by decide) rfl rfl ?_
        exact r_sub [2, 3, 1, 0] rfl H
      · have H := H.2 c
        refine r_aload_n (n := 34) 0 dX11_mean_33 rfl rfl ?_
        refine r_iconst (n := 35) (v := 4) dX11_mean_34 ki_4 rfl ?_
        refine rs_cVi (n := 38) (rest := []) (As := [.int _]) vm_X11_meets gw_1172 so_129 cq_10 dX11_mean_35 rfl rfl (Nat.le_of_ble_eq_true rfl) rfl (CI.mono H (fun r6 I7 X8 H => ?_))
        exact rs_iret dX11_mean_38 rfl H
    · have H := H.2 c
      refine r_aload_n (n := 19) 0 dX11_mean_18 rfl rfl ?_
      refine r_iconst (n := 20) (v := 1) dX11_mean_19 ki_1 rfl ?_
      refine rs_cVi (n := 23) (rest := []) (As := [.int _]) vm_X11_meets gw_1172 so_129 cq_10 dX11_mean_20 rfl rfl (Nat.le_of_ble_eq_true rfl) rfl (CI.mono H (fun r9 I10 X11 H => ?_))
      exact rs_iret dX11_mean_23 rfl H
  · have H := H.2 c
    refine r_iconst (n := 8) (v := (-1)) dX11_mean_7 ki_m1 rfl ?_
    exact rs_iret dX11_mean_8 rfl H
set_option maxRecDepth 20000 in
theorem rg_X11_mean_44 {g : OG} {d : Nat} {I : IT} {X : XT} {K : Int32 → IT → XT → Prop} {l1 : Int32} {l2 : Int64} {l4 : Int32} 
    (H : vp_in l1 6 ∧
      ((I 131 l1.toNatClampNeg) ≤ l4 →
        vp_in l1 6 ∧
        ¬ ((I 131 l1.toNatClampNeg).toInt64) = 0 ∧
        CI g d iX11_tells [rf g 129, .int ((l2 / ((I 131 l1.toNatClampNeg).toInt64)).toInt32), .int 1] I X (fun r4 I5 X6 =>
          K r4 I5 X6)) ∧
      (¬ (I 131 l1.toNatClampNeg) ≤ l4 →
        CI g d iX11_rowAt [rf g 129, .int l1, .int l4] I X (fun r7 I8 X9 =>
          ∀ x10 : Int64, x10 = l2 + r7.toInt64 →
          ∀ x11 : Int32, x11 = l4 + 1 →
          SR g (d + 1) iX11_mean 44 [(0, rf g 129), (1, .int l1), (2, .long x10), (4, .int x11)] I8 X9 (qI K)))) : SR g (d + 1) iX11_mean 44 [(0, rf g 129), (1, .int l1), (2, .long l2), (4, .int l4)] I X (qI K) := by
  refine r_iload (n := 46) 3 dX11_mean_44 rfl rfl ?_
  refine r_aload_n (n := 47) 0 dX11_mean_46 rfl rfl ?_
  refine r_getR (n := 50) cls_10 5 fi_10_5 so_129 gw_1031 dX11_mean_47 rfl sr_129_5 (by decide) ?_
  refine r_iload_n (n := 51) 1 dX11_mean_50 rfl rfl ?_
  obtain ⟨hi1, H⟩ := H
  refine rs_iald (n := 52) sa_131 hi1 dX11_mean_51 rfl ?_
  refine r_icmp_ge (n := 55) (tgt := 72) dX11_mean_52 (by decide) rfl (fun c => ?_) (fun c => ?_)
  · have H := H.1 c
    refine r_aload_n (n := 73) 0 dX11_mean_72 rfl rfl ?_
    refine r_lload_n (n := 74) 2 dX11_mean_73 rfl rfl ?_
    refine r_aload_n (n := 75) 0 dX11_mean_74 rfl rfl ?_
    refine r_getR (n := 78) cls_10 5 fi_10_5 so_129 gw_1031 dX11_mean_75 rfl sr_129_5 (by decide) ?_
    refine r_iload_n (n := 79) 1 dX11_mean_78 rfl rfl ?_
    obtain ⟨hi2, H⟩ := H
    refine rs_iald (n := 80) sa_131 hi2 dX11_mean_79 rfl ?_
    refine r_i2l (n := 81) dX11_mean_80 rfl ?_
    obtain ⟨hz3, H⟩ := H
    refine r_ldiv (n := 82) dX11_mean_81 hz3 rfl ?_
    refine r_l2i (n := 83) dX11_mean_82 rfl ?_
    refine r_iconst (n := 84) (v := 1) dX11_mean_83 ki_1 rfl ?_
    refine rs_cVi (n := 87) (rest := []) (As := [.int _, .int _]) vm_X11_tells gw_1184 so_129 cq_10 dX11_mean_84 rfl rfl (Nat.le_of_ble_eq_true rfl) rfl (CI.mono H (fun r4 I5 X6 H => ?_))
    exact rs_iret dX11_mean_87 rfl H
  · have H := H.2 c
    refine r_lload_n (n := 56) 2 dX11_mean_55 rfl rfl ?_
    refine r_aload_n (n := 57) 0 dX11_mean_56 rfl rfl ?_
    refine r_iload_n (n := 58) 1 dX11_mean_57 rfl rfl ?_
    refine r_iload (n := 60) 3 dX11_mean_58 rfl rfl ?_
    refine rs_cVi (n := 63) (rest := [.long _]) (As := [.int _, .int _]) vm_X11_rowAt gw_1180 so_129 cq_10 dX11_mean_60 rfl rfl (Nat.le_of_ble_eq_true rfl) rfl (CI.mono H (fun r7 I8 X9 H => ?_))
    refine r_i2l (n := 64) dX11_mean_63 rfl ?_
    refine r_ladd (n := 65) dX11_mean_64 rfl ?_
    have H := H _ rfl
    refine r_lstore_n (n := 66) (lv' := [(2, .long _), (0, .ref _), (1, .int _), (4, .int _)]) dX11_mean_65 rfl (by decide) rfl rfl ?_
    have H := H _ rfl
    refine r_iinc (n := 69) (lv' := [(4, .int _), (2, .long _), (0, .ref _), (1, .int _)]) 3 dX11_mean_66 rfl rfl (by decide) rfl rfl ?_
    refine r_goto (n := 44) dX11_mean_69 (by decide) ?_
    exact r_sub [2, 3, 1, 0] rfl H
set_option maxRecDepth 20000 in
theorem en_X11_isText {g : OG} {d : Nat} {I : IT} {X : XT} {K : Int32 → IT → XT → Prop} {l0 : Int32} 
    (H : CI g d iX11_in [.int l0, .int 0, .int 3] I X (fun r1 I2 X3 =>
        (r1 = 0 ∨ r1 = 1) ∧ K r1 I2 X3)) : CI g (d + 1) iX11_isText [.int l0] I X K := by
  refine ocall_of (by decide) (Nat.le_of_ble_eq_true rfl) ?_
  show SR g (d + 1) iX11_isText 0 [(0, .int l0)] I X (qI K)
  refine r_iload_n (n := 1) 0 dX11_isText_0 rfl rfl ?_
  refine r_iconst (n := 2) (v := 0) dX11_isText_1 ki_0 rfl ?_
  refine r_iconst (n := 3) (v := 3) dX11_isText_2 ki_3 rfl ?_
  refine rs_cSi (n := 6) (rest := []) (As := [.int _, .int _, .int _]) sm_X11_in gw_1150 dX11_isText_3 rfl rfl (Nat.le_of_ble_eq_true rfl) rfl (CI.mono H (fun r1 I2 X3 H => ?_))
  exact rs_zret dX11_isText_6 rfl H.1 H.2
set_option maxRecDepth 20000 in
theorem en_X11_text {g : OG} {d : Nat} {I : IT} {X : XT} {K : Int32 → IT → XT → Prop} {l1 : Int32} {l2 : Int32} 
    (H : CI g d iX11_isText [.int l1] I X (fun r1 I2 X3 =>
        (r1 = 0 →
          K ((-1)) I2 X3) ∧
        (¬ r1 = 0 →
          (l2 ≤ 60 →
            (0 ≤ l2 →
              vp_in l1 4 ∧
              ∀ I5 : IT, I5 = set2 I2 134 l1.toNatClampNeg l2 →
              SR g (d + 1) iX11_text 34 [(0, rf g 129), (1, .int l1), (2, .int l2), (3, .int 0)] I5 X3 (qI K)) ∧
            (¬ 0 ≤ l2 →
              CI g d iX11_meets [rf g 129, .int 5] I2 X3 (fun r6 I7 X8 =>
                K r6 I7 X8))) ∧
          (¬ l2 ≤ 60 →
            K ((-1)) I2 X3)))) : CI g (d + 1) iX11_text [rf g 129, .int l1, .int l2] I X K := by
  refine ocall_of (by decide) (Nat.le_of_ble_eq_true rfl) ?_
  show SR g (d + 1) iX11_text 0 [(0, rf g 129), (1, .int l1), (2, .int l2)] I X (qI K)
  refine r_iload_n (n := 1) 1 dX11_text_0 rfl rfl ?_
  refine rs_cSi (n := 4) (rest := []) (As := [.int _]) sm_X11_isText gw_1208 dX11_text_1 rfl rfl (Nat.le_of_ble_eq_true rfl) rfl (CI.mono H (fun r1 I2 X3 H => ?_))
  refine r_if_eq (n := 7) (tgt := 13) dX11_text_4 (by decide) rfl (fun c => ?_) (fun c => ?_)
  · have H := H.1 c
    refine r_iconst (n := 14) (v := (-1)) dX11_text_13 ki_m1 rfl ?_
    exact rs_iret dX11_text_14 rfl H
  · have H := H.2 c
    refine r_iload_n (n := 8) 2 dX11_text_7 rfl rfl ?_
    refine r_bipush (n := 10) (v := 60) dX11_text_8 kb_60 rfl ?_
    refine r_icmp_le (n := 13) (tgt := 15) dX11_text_10 (by decide) rfl (fun c => ?_) (fun c => ?_)
    · have H := H.1 c
      refine r_iload_n (n := 16) 2 dX11_text_15 rfl rfl ?_
      refine r_if_ge (n := 19) (tgt := 25) dX11_text_16 (by decide) rfl (fun c => ?_) (fun c => ?_)
      · have H := H.1 c
        refine r_aload_n (n := 26) 0 dX11_text_25 rfl rfl ?_
        refine r_getR (n := 29) cls_10 8 fi_10_8 so_129 gw_1034 dX11_text_26 rfl sr_129_8 (by decide) ?_
        refine r_iload_n (n := 30) 1 dX11_text_29 rfl rfl ?_
        refine r_iload_n (n := 31) 2 dX11_text_30 rfl rfl ?_
        obtain ⟨hi4, H⟩ := H
        have H := H _ rfl
        refine rs_iast (n := 32) sa_134 hi4 dX11_text_31 rfl ?_
        refine r_iconst (n := 33) (v := 0) dX11_text_32 ki_0 rfl ?_
        refine r_istore_n (n := 34) (lv' := [(3, .int _), (0, .ref _), (1, .int _), (2, .int _)]) dX11_text_33 rfl (by decide) rfl rfl ?_
        exact r_sub [1, 2, 3, 0] rfl H
      · have H := H.2 c
        refine r_aload_n (n := 20) 0 dX11_text_19 rfl rfl ?_
        refine r_iconst (n := 21) (v := 5) dX11_text_20 ki_5 rfl ?_
        refine rs_cVi (n := 24) (rest := []) (As := [.int _]) vm_X11_meets gw_1172 so_129 cq_10 dX11_text_21 rfl rfl (Nat.le_of_ble_eq_true rfl) rfl (CI.mono H (fun r6 I7 X8 H => ?_))
        exact rs_iret dX11_text_24 rfl H
    · have H := H.2 c
      refine r_iconst (n := 14) (v := (-1)) dX11_text_13 ki_m1 rfl ?_
      exact rs_iret dX11_text_14 rfl H
set_option maxRecDepth 20000 in
theorem rg_X11_text_34 {g : OG} {d : Nat} {I : IT} {X : XT} {K : Int32 → IT → XT → Prop} {l1 : Int32} {l2 : Int32} {l3 : Int32} 
    (H : (60 ≤ l3 →
        K l2 I X) ∧
      (¬ 60 ≤ l3 →
        vp_in ((60 * l1) + l3) 240 ∧
        ∀ I2 : IT, I2 = set2 I 135 ((60 * l1) + l3).toNatClampNeg (vp_nar .byte 32) →
        ∀ x3 : Int32, x3 = l3 + 1 →
        SR g (d + 1) iX11_text 34 [(0, rf g 129), (1, .int l1), (2, .int l2), (3, .int x3)] I2 X (qI K))) : SR g (d + 1) iX11_text 34 [(0, rf g 129), (1, .int l1), (2, .int l2), (3, .int l3)] I X (qI K) := by
  refine r_iload_n (n := 35) 3 dX11_text_34 rfl rfl ?_
  refine r_bipush (n := 37) (v := 60) dX11_text_35 kb_60 rfl ?_
  refine r_icmp_ge (n := 40) (tgt := 59) dX11_text_37 (by decide) rfl (fun c => ?_) (fun c => ?_)
  · have H := H.1 c
    refine r_iload_n (n := 60) 2 dX11_text_59 rfl rfl ?_
    exact rs_iret dX11_text_60 rfl H
  · have H := H.2 c
    refine r_aload_n (n := 41) 0 dX11_text_40 rfl rfl ?_
    refine r_getR (n := 44) cls_10 9 fi_10_9 so_129 gw_1035 dX11_text_41 rfl sr_129_9 (by decide) ?_
    refine r_bipush (n := 46) (v := 60) dX11_text_44 kb_60 rfl ?_
    refine r_iload_n (n := 47) 1 dX11_text_46 rfl rfl ?_
    refine r_imul (n := 48) dX11_text_47 rfl ?_
    refine r_iload_n (n := 49) 3 dX11_text_48 rfl rfl ?_
    refine r_iadd (n := 50) dX11_text_49 rfl ?_
    refine r_bipush (n := 52) (v := 32) dX11_text_50 kb_32 rfl ?_
    obtain ⟨hi1, H⟩ := H
    have H := H _ rfl
    refine rs_bast (n := 53) sa_135 hi1 dX11_text_52 rfl ?_
    have H := H _ rfl
    refine r_iinc (n := 56) (lv' := [(3, .int _), (0, .ref _), (1, .int _), (2, .int _)]) 3 dX11_text_53 rfl rfl (by decide) rfl rfl ?_
    refine r_goto (n := 34) dX11_text_56 (by decide) ?_
    exact r_sub [1, 2, 3, 0] rfl H
set_option maxRecDepth 20000 in
theorem en_X11_put {g : OG} {d : Nat} {I : IT} {X : XT} {K : Int32 → IT → XT → Prop} {l1 : Int32} {l2 : Int32} {l3 : Int32} 
    (H : CI g d iX11_isText [.int l1] I X (fun r1 I2 X3 =>
        (¬ r1 = 0 →
          vp_in l1 4 ∧
          (0 ≤ (I2 134 l1.toNatClampNeg) →
            vp_in l1 4 ∧
            CI g d iX11_in [.int l2, .int 0, .int ((I2 134 l1.toNatClampNeg) - 1)] I2 X3 (fun r6 I7 X8 =>
              (¬ r6 = 0 →
                vp_in ((60 * l1) + l2) 240 ∧
                ∀ x10 : Int32, x10 = I7 135 ((60 * l1) + l2).toNatClampNeg →
                vp_in ((60 * l1) + l2) 240 ∧
                ∀ I12 : IT, I12 = set2 I7 135 ((60 * l1) + l2).toNatClampNeg (vp_nar .byte l3.toInt8.toInt32) →
                K (1000 + x10) I12 X8) ∧
              (r6 = 0 →
                CI g d iX11_meets [rf g 129, .int 2] I7 X8 (fun r13 I14 X15 =>
                  K r13 I14 X15)))) ∧
          (¬ 0 ≤ (I2 134 l1.toNatClampNeg) →
            CI g d iX11_meets [rf g 129, .int 1] I2 X3 (fun r16 I17 X18 =>
              K r16 I17 X18))) ∧
        (r1 = 0 →
          K ((-1)) I2 X3))) : CI g (d + 1) iX11_put [rf g 129, .int l1, .int l2, .int l3] I X K := by
  refine ocall_of (by decide) (Nat.le_of_ble_eq_true rfl) ?_
  show SR g (d + 1) iX11_put 0 [(0, rf g 129), (1, .int l1), (2, .int l2), (3, .int l3)] I X (qI K)
  refine r_iload_n (n := 1) 1 dX11_put_0 rfl rfl ?_
  refine rs_cSi (n := 4) (rest := []) (As := [.int _]) sm_X11_isText gw_1208 dX11_put_1 rfl rfl (Nat.le_of_ble_eq_true rfl) rfl (CI.mono H (fun r1 I2 X3 H => ?_))
  refine r_if_ne (n := 7) (tgt := 9) dX11_put_4 (by decide) rfl (fun c => ?_) (fun c => ?_)
  · have H := H.1 c
    refine r_aload_n (n := 10) 0 dX11_put_9 rfl rfl ?_
    refine r_getR (n := 13) cls_10 8 fi_10_8 so_129 gw_1034 dX11_put_10 rfl sr_129_8 (by decide) ?_
    refine r_iload_n (n := 14) 1 dX11_put_13 rfl rfl ?_
    obtain ⟨hi4, H⟩ := H
    refine rs_iald (n := 15) sa_134 hi4 dX11_put_14 rfl ?_
    refine r_if_ge (n := 18) (tgt := 24) dX11_put_15 (by decide) rfl (fun c => ?_) (fun c => ?_)
    · have H := H.1 c
      refine r_iload_n (n := 25) 2 dX11_put_24 rfl rfl ?_
      refine r_iconst (n := 26) (v := 0) dX11_put_25 ki_0 rfl ?_
      refine r_aload_n (n := 27) 0 dX11_put_26 rfl rfl ?_
      refine r_getR (n := 30) cls_10 8 fi_10_8 so_129 gw_1034 dX11_put_27 rfl sr_129_8 (by decide) ?_
      refine r_iload_n (n := 31) 1 dX11_put_30 rfl rfl ?_
      obtain ⟨hi5, H⟩ := H
      refine rs_iald (n := 32) sa_134 hi5 dX11_put_31 rfl ?_
      refine r_iconst (n := 33) (v := 1) dX11_put_32 ki_1 rfl ?_
      refine r_isub (n := 34) dX11_put_33 rfl ?_
      refine rs_cSi (n := 37) (rest := []) (As := [.int _, .int _, .int _]) sm_X11_in gw_1150 dX11_put_34 rfl rfl (Nat.le_of_ble_eq_true rfl) rfl (CI.mono H (fun r6 I7 X8 H => ?_))
      refine r_if_ne (n := 40) (tgt := 46) dX11_put_37 (by decide) rfl (fun c => ?_) (fun c => ?_)
      · have H := H.1 c
        refine r_aload_n (n := 47) 0 dX11_put_46 rfl rfl ?_
        refine r_getR (n := 50) cls_10 9 fi_10_9 so_129 gw_1035 dX11_put_47 rfl sr_129_9 (by decide) ?_
        refine r_bipush (n := 52) (v := 60) dX11_put_50 kb_60 rfl ?_
        refine r_iload_n (n := 53) 1 dX11_put_52 rfl rfl ?_
        refine r_imul (n := 54) dX11_put_53 rfl ?_
        refine r_iload_n (n := 55) 2 dX11_put_54 rfl rfl ?_
        refine r_iadd (n := 56) dX11_put_55 rfl ?_
        obtain ⟨hi9, H⟩ := H
        refine rs_bald (n := 57) sa_135 hi9 dX11_put_56 rfl ?_
        have H := H _ rfl
        refine r_istore (n := 59) (lv' := [(4, .int _), (0, .ref _), (1, .int _), (2, .int _), (3, .int _)]) dX11_put_57 (by decide) rfl rfl ?_
        refine r_aload_n (n := 60) 1 dX11_put_59 rfl rfl ?_
        refine r_getR (n := 63) cls_10 9 fi_10_9 so_129 gw_1035 dX11_put_60 rfl sr_129_9 (by decide) ?_
        refine r_bipush (n := 65) (v := 60) dX11_put_63 kb_60 rfl ?_
        refine r_iload_n (n := 66) 2 dX11_put_65 rfl rfl ?_
        refine r_imul (n := 67) dX11_put_66 rfl ?_
        refine r_iload_n (n := 68) 3 dX11_put_67 rfl rfl ?_
        refine r_iadd (n := 69) dX11_put_68 rfl ?_
        refine r_iload_n (n := 70) 4 dX11_put_69 rfl rfl ?_
        refine r_i2b (n := 71) dX11_put_70 rfl ?_
        obtain ⟨hi11, H⟩ := H
        have H := H _ rfl
        refine rs_bast (n := 72) sa_135 hi11 dX11_put_71 rfl ?_
        refine r_sipush (n := 75) (v := 1000) dX11_put_72 ks_1000 rfl ?_
        refine r_iload (n := 77) 0 dX11_put_75 rfl rfl ?_
        refine r_iadd (n := 78) dX11_put_77 rfl ?_
        exact rs_iret dX11_put_78 rfl H
      · have H := H.2 c
        refine r_aload_n (n := 41) 0 dX11_put_40 rfl rfl ?_
        refine r_iconst (n := 42) (v := 2) dX11_put_41 ki_2 rfl ?_
        refine rs_cVi (n := 45) (rest := []) (As := [.int _]) vm_X11_meets gw_1172 so_129 cq_10 dX11_put_42 rfl rfl (Nat.le_of_ble_eq_true rfl) rfl (CI.mono H (fun r13 I14 X15 H => ?_))
        exact rs_iret dX11_put_45 rfl H
    · have H := H.2 c
      refine r_aload_n (n := 19) 0 dX11_put_18 rfl rfl ?_
      refine r_iconst (n := 20) (v := 1) dX11_put_19 ki_1 rfl ?_
      refine rs_cVi (n := 23) (rest := []) (As := [.int _]) vm_X11_meets gw_1172 so_129 cq_10 dX11_put_20 rfl rfl (Nat.le_of_ble_eq_true rfl) rfl (CI.mono H (fun r16 I17 X18 H => ?_))
      exact rs_iret dX11_put_23 rfl H
  · have H := H.2 c
    refine r_iconst (n := 8) (v := (-1)) dX11_put_7 ki_m1 rfl ?_
    exact rs_iret dX11_put_8 rfl H
set_option maxRecDepth 20000 in
theorem en_X11_byteAt {g : OG} {d : Nat} {I : IT} {X : XT} {K : Int32 → IT → XT → Prop} {l1 : Int32} {l2 : Int32} 
    (H : vp_in l1 4 ∧
      ((I 134 l1.toNatClampNeg) ≤ l2 →
        K 0 I X) ∧
      (¬ (I 134 l1.toNatClampNeg) ≤ l2 →
        vp_in ((60 * l1) + l2) 240 ∧
        K (I 135 ((60 * l1) + l2).toNatClampNeg) I X)) : CI g (d + 1) iX11_byteAt [rf g 129, .int l1, .int l2] I X K := by
  refine ocall_of (by decide) (Nat.le_of_ble_eq_true rfl) ?_
  show SR g (d + 1) iX11_byteAt 0 [(0, rf g 129), (1, .int l1), (2, .int l2)] I X (qI K)
  refine r_iload_n (n := 1) 2 dX11_byteAt_0 rfl rfl ?_
  refine r_aload_n (n := 2) 0 dX11_byteAt_1 rfl rfl ?_
  refine r_getR (n := 5) cls_10 8 fi_10_8 so_129 gw_1034 dX11_byteAt_2 rfl sr_129_8 (by decide) ?_
  refine r_iload_n (n := 6) 1 dX11_byteAt_5 rfl rfl ?_
  obtain ⟨hi1, H⟩ := H
  refine rs_iald (n := 7) sa_134 hi1 dX11_byteAt_6 rfl ?_
  refine r_icmp_ge (n := 10) (tgt := 24) dX11_byteAt_7 (by decide) rfl (fun c => ?_) (fun c => ?_)
  · have H := H.1 c
    refine r_iconst (n := 25) (v := 0) dX11_byteAt_24 ki_0 rfl ?_
    exact rs_iret dX11_byteAt_25 rfl H
  · have H := H.2 c
    refine r_aload_n (n := 11) 0 dX11_byteAt_10 rfl rfl ?_
    refine r_getR (n := 14) cls_10 9 fi_10_9 so_129 gw_1035 dX11_byteAt_11 rfl sr_129_9 (by decide) ?_
    refine r_bipush (n := 16) (v := 60) dX11_byteAt_14 kb_60 rfl ?_
    refine r_iload_n (n := 17) 1 dX11_byteAt_16 rfl rfl ?_
    refine r_imul (n := 18) dX11_byteAt_17 rfl ?_
    refine r_iload_n (n := 19) 2 dX11_byteAt_18 rfl rfl ?_
    refine r_iadd (n := 20) dX11_byteAt_19 rfl ?_
    obtain ⟨hi2, H⟩ := H
    refine rs_bald (n := 21) sa_135 hi2 dX11_byteAt_20 rfl ?_
    refine r_goto (n := 25) dX11_byteAt_21 (by decide) ?_
    exact rs_iret dX11_byteAt_25 rfl H
set_option maxRecDepth 20000 in
theorem en_X11_layRow {g : OG} {d : Nat} {I : IT} {X : XT} {K : IT → XT → Prop} {l1 : Int32} {l3 : Int32} 
    (H : vp_in l1 6 ∧
      ∀ I2 : IT, I2 = set2 I 131 l1.toNatClampNeg l3 →
      SR g (d + 1) iX11_layRow 10 [(0, rf g 129), (1, .int l1), (2, rf g 150), (3, .int l3), (4, .int 0)] I2 X (qV K)) : CV g (d + 1) iX11_layRow [rf g 129, .int l1, rf g 150, .int l3] I X K := by
  refine ocall_of (by decide) (Nat.le_of_ble_eq_true rfl) ?_
  show SR g (d + 1) iX11_layRow 0 [(0, rf g 129), (1, .int l1), (2, rf g 150), (3, .int l3)] I X (qV K)
  refine r_aload_n (n := 1) 0 dX11_layRow_0 rfl rfl ?_
  refine r_getR (n := 4) cls_10 5 fi_10_5 so_129 gw_1031 dX11_layRow_1 rfl sr_129_5 (by decide) ?_
  refine r_iload_n (n := 5) 1 dX11_layRow_4 rfl rfl ?_
  refine r_iload_n (n := 6) 3 dX11_layRow_5 rfl rfl ?_
  obtain ⟨hi1, H⟩ := H
  have H := H _ rfl
  refine rs_iast (n := 7) sa_131 hi1 dX11_layRow_6 rfl ?_
  refine r_iconst (n := 8) (v := 0) dX11_layRow_7 ki_0 rfl ?_
  refine r_istore (n := 10) (lv' := [(4, .int _), (0, .ref _), (1, .int _), (2, .ref _), (3, .int _)]) dX11_layRow_8 (by decide) rfl rfl ?_
  exact r_sub [1, 2, 3, 4, 0] rfl H
set_option maxRecDepth 20000 in
theorem rg_X11_layRow_10 {g : OG} {d : Nat} {I : IT} {X : XT} {K : IT → XT → Prop} {l1 : Int32} {l3 : Int32} {l4 : Int32} 
    (H : (40 ≤ l4 →
        K I X) ∧
      (¬ 40 ≤ l4 →
        (l3 ≤ l4 →
          vp_in ((40 * l1) + l4) 240 ∧
          ∀ I2 : IT, I2 = set2 I 132 ((40 * l1) + l4).toNatClampNeg 0 →
          ∀ x3 : Int32, x3 = l4 + 1 →
          SR g (d + 1) iX11_layRow 10 [(0, rf g 129), (1, .int l1), (2, rf g 150), (3, .int l3), (4, .int x3)] I2 X (qV K)) ∧
        (¬ l3 ≤ l4 →
          vp_in l4 10 ∧
          vp_in ((40 * l1) + l4) 240 ∧
          ∀ I6 : IT, I6 = set2 I 132 ((40 * l1) + l4).toNatClampNeg (I 150 l4.toNatClampNeg) →
          ∀ x7 : Int32, x7 = l4 + 1 →
          SR g (d + 1) iX11_layRow 10 [(0, rf g 129), (1, .int l1), (2, rf g 150), (3, .int l3), (4, .int x7)] I6 X (qV K)))) : SR g (d + 1) iX11_layRow 10 [(0, rf g 129), (1, .int l1), (2, rf g 150), (3, .int l3), (4, .int l4)] I X (qV K) := by
  refine r_iload (n := 12) 4 dX11_layRow_10 rfl rfl ?_
  refine r_bipush (n := 14) (v := 40) dX11_layRow_12 kb_40 rfl ?_
  refine r_icmp_ge (n := 17) (tgt := 49) dX11_layRow_14 (by decide) rfl (fun c => ?_) (fun c => ?_)
  · have H := H.1 c
    exact rs_vret dX11_layRow_49 rfl H
  · have H := H.2 c
    refine r_aload_n (n := 18) 0 dX11_layRow_17 rfl rfl ?_
    refine r_getR (n := 21) cls_10 6 fi_10_6 so_129 gw_1032 dX11_layRow_18 rfl sr_129_6 (by decide) ?_
    refine r_bipush (n := 23) (v := 40) dX11_layRow_21 kb_40 rfl ?_
    refine r_iload_n (n := 24) 1 dX11_layRow_23 rfl rfl ?_
    refine r_imul (n := 25) dX11_layRow_24 rfl ?_
    refine r_iload (n := 27) 4 dX11_layRow_25 rfl rfl ?_
    refine r_iadd (n := 28) dX11_layRow_27 rfl ?_
    refine r_iload (n := 30) 4 dX11_layRow_28 rfl rfl ?_
    refine r_iload_n (n := 31) 3 dX11_layRow_30 rfl rfl ?_
    refine r_icmp_ge (n := 34) (tgt := 41) dX11_layRow_31 (by decide) rfl (fun c => ?_) (fun c => ?_)
    · have H := H.1 c
      refine r_iconst (n := 42) (v := 0) dX11_layRow_41 ki_0 rfl ?_
      obtain ⟨hi1, H⟩ := H
      have H := H _ rfl
      refine rs_iast (n := 43) sa_132 hi1 dX11_layRow_42 rfl ?_
      have H := H _ rfl
      refine r_iinc (n := 46) (lv' := [(4, .int _), (0, .ref _), (1, .int _), (2, .ref _), (3, .int _)]) 4 dX11_layRow_43 rfl rfl (by decide) rfl rfl ?_
      refine r_goto (n := 10) dX11_layRow_46 (by decide) ?_
      exact r_sub [1, 2, 3, 4, 0] rfl H
    · have H := H.2 c
      refine r_aload_n (n := 35) 2 dX11_layRow_34 rfl rfl ?_
      refine r_iload (n := 37) 4 dX11_layRow_35 rfl rfl ?_
      obtain ⟨hi4, H⟩ := H
      refine rs_iald (n := 38) sa_150 hi4 dX11_layRow_37 rfl ?_
      refine r_goto (n := 42) dX11_layRow_38 (by decide) ?_
      obtain ⟨hi5, H⟩ := H
      have H := H _ rfl
      refine rs_iast (n := 43) sa_132 hi5 dX11_layRow_42 rfl ?_
      have H := H _ rfl
      refine r_iinc (n := 46) (lv' := [(4, .int _), (0, .ref _), (1, .int _), (2, .ref _), (3, .int _)]) 4 dX11_layRow_43 rfl rfl (by decide) rfl rfl ?_
      refine r_goto (n := 10) dX11_layRow_46 (by decide) ?_
      exact r_sub [1, 2, 3, 4, 0] rfl H
set_option maxRecDepth 20000 in
theorem en_X11_kindOf {g : OG} {d : Nat} {I : IT} {X : XT} {K : Int32 → IT → XT → Prop} {l0 : Int32} 
    (H : (l0 = 100 →
        K 3 I X) ∧
      (¬ l0 = 100 →
        (l0 = 101 →
        K ((-9)) I X) ∧
      (¬ l0 = 101 →
        (l0 = 102 →
        K ((-9)) I X) ∧
      (¬ l0 = 102 →
        (l0 = 103 →
        K ((-9)) I X) ∧
      (¬ l0 = 103 →
        (l0 = 104 →
        K 0 I X) ∧
      (¬ l0 = 104 →
        (l0 = 105 →
        K 5 I X) ∧
      (¬ l0 = 105 →
        (l0 = 106 →
        K ((-9)) I X) ∧
      (¬ l0 = 106 →
        (l0 = 107 →
        K ((-9)) I X) ∧
      (¬ l0 = 107 →
        (l0 = 108 →
        K ((-9)) I X) ∧
      (¬ l0 = 108 →
        (l0 = 109 →
        K ((-9)) I X) ∧
      (¬ l0 = 109 →
        (l0 = 110 →
        K ((-9)) I X) ∧
      (¬ l0 = 110 →
        (l0 = 111 →
        K ((-9)) I X) ∧
      (¬ l0 = 111 →
        (l0 = 112 →
        K 1 I X) ∧
      (¬ l0 = 112 →
        (l0 = 113 →
        K ((-9)) I X) ∧
      (¬ l0 = 113 →
        (l0 = 114 →
        K ((-9)) I X) ∧
      (¬ l0 = 114 →
        (l0 = 115 →
        K 2 I X) ∧
      (¬ l0 = 115 →
        (l0 = 116 →
        K 4 I X) ∧
      (¬ l0 = 116 →
        K ((-9)) I X)))))))))))))))))) : CI g (d + 1) iX11_kindOf [.int l0] I X K := by
  refine ocall_of (by decide) (Nat.le_of_ble_eq_true rfl) ?_
  show SR g (d + 1) iX11_kindOf 0 [(0, .int l0)] I X (qI K)
  refine r_iload_n (n := 1) 0 dX11_kindOf_0 rfl rfl ?_
  refine sw_split H (fun cs1 H => ?_) (fun cs1 H => ?_)
  · refine r_tcase (n := 90) (v := 100) (off := 89) dX11_kindOf_1 cs1 (by decide) (by decide) (by decide) ?_
    refine r_iconst (n := 91) (v := 3) dX11_kindOf_90 ki_3 rfl ?_
    exact rs_iret dX11_kindOf_91 rfl H
  · skip
    refine sw_split H (fun cs2 H => ?_) (fun cs2 H => ?_)
    · refine r_tcase (n := 96) (v := 101) (off := 95) dX11_kindOf_1 cs2 (by decide) (by decide) (by decide) ?_
      refine r_bipush (n := 98) (v := (-9)) dX11_kindOf_96 kb_m9 rfl ?_
      exact rs_iret dX11_kindOf_98 rfl H
    · skip
      refine sw_split H (fun cs3 H => ?_) (fun cs3 H => ?_)
      · refine r_tcase (n := 96) (v := 102) (off := 95) dX11_kindOf_1 cs3 (by decide) (by decide) (by decide) ?_
        refine r_bipush (n := 98) (v := (-9)) dX11_kindOf_96 kb_m9 rfl ?_
        exact rs_iret dX11_kindOf_98 rfl H
      · skip
        refine sw_split H (fun cs4 H => ?_) (fun cs4 H => ?_)
        · refine r_tcase (n := 96) (v := 103) (off := 95) dX11_kindOf_1 cs4 (by decide) (by decide) (by decide) ?_
          refine r_bipush (n := 98) (v := (-9)) dX11_kindOf_96 kb_m9 rfl ?_
          exact rs_iret dX11_kindOf_98 rfl H
        · skip
          refine sw_split H (fun cs5 H => ?_) (fun cs5 H => ?_)
          · refine r_tcase (n := 84) (v := 104) (off := 83) dX11_kindOf_1 cs5 (by decide) (by decide) (by decide) ?_
            refine r_iconst (n := 85) (v := 0) dX11_kindOf_84 ki_0 rfl ?_
            exact rs_iret dX11_kindOf_85 rfl H
          · skip
            refine sw_split H (fun cs6 H => ?_) (fun cs6 H => ?_)
            · refine r_tcase (n := 94) (v := 105) (off := 93) dX11_kindOf_1 cs6 (by decide) (by decide) (by decide) ?_
              refine r_iconst (n := 95) (v := 5) dX11_kindOf_94 ki_5 rfl ?_
              exact rs_iret dX11_kindOf_95 rfl H
            · skip
              refine sw_split H (fun cs7 H => ?_) (fun cs7 H => ?_)
              · refine r_tcase (n := 96) (v := 106) (off := 95) dX11_kindOf_1 cs7 (by decide) (by decide) (by decide) ?_
                refine r_bipush (n := 98) (v := (-9)) dX11_kindOf_96 kb_m9 rfl ?_
                exact rs_iret dX11_kindOf_98 rfl H
              · skip
                refine sw_split H (fun cs8 H => ?_) (fun cs8 H => ?_)
                · refine r_tcase (n := 96) (v := 107) (off := 95) dX11_kindOf_1 cs8 (by decide) (by decide) (by decide) ?_
                  refine r_bipush (n := 98) (v := (-9)) dX11_kindOf_96 kb_m9 rfl ?_
                  exact rs_iret dX11_kindOf_98 rfl H
                · skip
                  refine sw_split H (fun cs9 H => ?_) (fun cs9 H => ?_)
                  · refine r_tcase (n := 96) (v := 108) (off := 95) dX11_kindOf_1 cs9 (by decide) (by decide) (by decide) ?_
                    refine r_bipush (n := 98) (v := (-9)) dX11_kindOf_96 kb_m9 rfl ?_
                    exact rs_iret dX11_kindOf_98 rfl H
                  · skip
                    refine sw_split H (fun cs10 H => ?_) (fun cs10 H => ?_)
                    · refine r_tcase (n := 96) (v := 109) (off := 95) dX11_kindOf_1 cs10 (by decide) (by decide) (by decide) ?_
                      refine r_bipush (n := 98) (v := (-9)) dX11_kindOf_96 kb_m9 rfl ?_
                      exact rs_iret dX11_kindOf_98 rfl H
                    · skip
                      refine sw_split H (fun cs11 H => ?_) (fun cs11 H => ?_)
                      · refine r_tcase (n := 96) (v := 110) (off := 95) dX11_kindOf_1 cs11 (by decide) (by decide) (by decide) ?_
                        refine r_bipush (n := 98) (v := (-9)) dX11_kindOf_96 kb_m9 rfl ?_
                        exact rs_iret dX11_kindOf_98 rfl H
                      · skip
                        refine sw_split H (fun cs12 H => ?_) (fun cs12 H => ?_)
                        · refine r_tcase (n := 96) (v := 111) (off := 95) dX11_kindOf_1 cs12 (by decide) (by decide) (by decide) ?_
                          refine r_bipush (n := 98) (v := (-9)) dX11_kindOf_96 kb_m9 rfl ?_
                          exact rs_iret dX11_kindOf_98 rfl H
                        · skip
                          refine sw_split H (fun cs13 H => ?_) (fun cs13 H => ?_)
                          · refine r_tcase (n := 86) (v := 112) (off := 85) dX11_kindOf_1 cs13 (by decide) (by decide) (by decide) ?_
                            refine r_iconst (n := 87) (v := 1) dX11_kindOf_86 ki_1 rfl ?_
                            exact rs_iret dX11_kindOf_87 rfl H
                          · skip
                            refine sw_split H (fun cs14 H => ?_) (fun cs14 H => ?_)
                            · refine r_tcase (n := 96) (v := 113) (off := 95) dX11_kindOf_1 cs14 (by decide) (by decide) (by decide) ?_
                              refine r_bipush (n := 98) (v := (-9)) dX11_kindOf_96 kb_m9 rfl ?_
                              exact rs_iret dX11_kindOf_98 rfl H
                            · skip
                              refine sw_split H (fun cs15 H => ?_) (fun cs15 H => ?_)
                              · refine r_tcase (n := 96) (v := 114) (off := 95) dX11_kindOf_1 cs15 (by decide) (by decide) (by decide) ?_
                                refine r_bipush (n := 98) (v := (-9)) dX11_kindOf_96 kb_m9 rfl ?_
                                exact rs_iret dX11_kindOf_98 rfl H
                              · skip
                                refine sw_split H (fun cs16 H => ?_) (fun cs16 H => ?_)
                                · refine r_tcase (n := 88) (v := 115) (off := 87) dX11_kindOf_1 cs16 (by decide) (by decide) (by decide) ?_
                                  refine r_iconst (n := 89) (v := 2) dX11_kindOf_88 ki_2 rfl ?_
                                  exact rs_iret dX11_kindOf_89 rfl H
                                · skip
                                  refine sw_split H (fun cs17 H => ?_) (fun cs17 H => ?_)
                                  · refine r_tcase (n := 92) (v := 116) (off := 91) dX11_kindOf_1 cs17 (by decide) (by decide) (by decide) ?_
                                    refine r_iconst (n := 93) (v := 4) dX11_kindOf_92 ki_4 rfl ?_
                                    exact rs_iret dX11_kindOf_93 rfl H
                                  · skip
                                    refine r_tout (n := 96) dX11_kindOf_1 (by have e0 := lv_neT cs1 (a := 100) (by decide); have e1 := lv_neT cs2 (a := 101) (by decide); have e2 := lv_neT cs3 (a := 102) (by decide); have e3 := lv_neT cs4 (a := 103) (by decide); have e4 := lv_neT cs5 (a := 104) (by decide); have e5 := lv_neT cs6 (a := 105) (by decide); have e6 := lv_neT cs7 (a := 106) (by decide); have e7 := lv_neT cs8 (a := 107) (by decide); have e8 := lv_neT cs9 (a := 108) (by decide); have e9 := lv_neT cs10 (a := 109) (by decide); have e10 := lv_neT cs11 (a := 110) (by decide); have e11 := lv_neT cs12 (a := 111) (by decide); have e12 := lv_neT cs13 (a := 112) (by decide); have e13 := lv_neT cs14 (a := 113) (by decide); have e14 := lv_neT cs15 (a := 114) (by decide); have e15 := lv_neT cs16 (a := 115) (by decide); have e16 := lv_neT cs17 (a := 116) (by decide); omega) (by decide) ?_
                                    refine r_bipush (n := 98) (v := (-9)) dX11_kindOf_96 kb_m9 rfl ?_
                                    exact rs_iret dX11_kindOf_98 rfl H
set_option maxRecDepth 20000 in
theorem en_X11_figureAt {g : OG} {d : Nat} {I : IT} {X : XT} {K : Int32 → IT → XT → Prop} {l1 : Int32} 
    (H : CI g d iX11_byteAt [rf g 129, .int l1, .int (I 129 15)] I X (fun r1 I2 X3 =>
        ∀ x4 : Int32, x4 = r1 - 48 →
        CI g d iX11_in [.int x4, .int 0, .int 9] I2 X3 (fun r5 I6 X7 =>
          (r5 = 0 →
            K ((-9)) I6 X7) ∧
          (¬ r5 = 0 →
            K x4 I6 X7)))) : CI g (d + 1) iX11_figureAt [rf g 129, .int l1] I X K := by
  refine ocall_of (by decide) (Nat.le_of_ble_eq_true rfl) ?_
  show SR g (d + 1) iX11_figureAt 0 [(0, rf g 129), (1, .int l1)] I X (qI K)
  refine r_aload_n (n := 1) 0 dX11_figureAt_0 rfl rfl ?_
  refine r_iload_n (n := 2) 1 dX11_figureAt_1 rfl rfl ?_
  refine r_aload_n (n := 3) 0 dX11_figureAt_2 rfl rfl ?_
  refine rs_getI (n := 6) cls_10 15 fi_10_15 so_129 gw_1041 dX11_figureAt_3 rfl ?_
  refine rs_cVi (n := 9) (rest := []) (As := [.int _, .int _]) vm_X11_byteAt gw_1223 so_129 cq_10 dX11_figureAt_6 rfl rfl (Nat.le_of_ble_eq_true rfl) rfl (CI.mono H (fun r1 I2 X3 H => ?_))
  refine r_bipush (n := 11) (v := 48) dX11_figureAt_9 kb_48 rfl ?_
  refine r_isub (n := 12) dX11_figureAt_11 rfl ?_
  have H := H _ rfl
  refine r_istore_n (n := 13) (lv' := [(2, .int _), (0, .ref _), (1, .int _)]) dX11_figureAt_12 rfl (by decide) rfl rfl ?_
  refine r_iload_n (n := 14) 0 dX11_figureAt_13 rfl rfl ?_
  refine r_iconst (n := 15) (v := 0) dX11_figureAt_14 ki_0 rfl ?_
  refine r_bipush (n := 17) (v := 9) dX11_figureAt_15 kb_9 rfl ?_
  refine rs_cSi (n := 20) (rest := []) (As := [.int _, .int _, .int _]) sm_X11_in gw_1150 dX11_figureAt_17 rfl rfl (Nat.le_of_ble_eq_true rfl) rfl (CI.mono H (fun r5 I6 X7 H => ?_))
  refine r_if_eq (n := 23) (tgt := 27) dX11_figureAt_20 (by decide) rfl (fun c => ?_) (fun c => ?_)
  · have H := H.1 c
    refine r_bipush (n := 29) (v := (-9)) dX11_figureAt_27 kb_m9 rfl ?_
    exact rs_iret dX11_figureAt_29 rfl H
  · have H := H.2 c
    refine r_iload_n (n := 24) 0 dX11_figureAt_23 rfl rfl ?_
    refine r_goto (n := 29) dX11_figureAt_24 (by decide) ?_
    exact rs_iret dX11_figureAt_29 rfl H
set_option maxRecDepth 20000 in
theorem en_X11_readsWinds {g : OG} {d : Nat} {I : IT} {X : XT} {K : Int32 → IT → XT → Prop} {l1 : Int32} 
    (H : CI g d iX11_byteAt [rf g 129, .int l1, .int (I 129 15)] I X (fun r1 I2 X3 =>
        (r1 = 118 →
          ∀ I4 : IT, I4 = set2 I2 129 15 ((I2 129 15) + 1) →
          SR g (d + 1) iX11_readsWinds 26 [(0, rf g 129), (1, .int l1)] I4 X3 (qI K)) ∧
        (¬ r1 = 118 →
          K 0 I2 X3))) : CI g (d + 1) iX11_readsWinds [rf g 129, .int l1] I X K := by
  refine ocall_of (by decide) (Nat.le_of_ble_eq_true rfl) ?_
  show SR g (d + 1) iX11_readsWinds 0 [(0, rf g 129), (1, .int l1)] I X (qI K)
  refine r_aload_n (n := 1) 0 dX11_readsWinds_0 rfl rfl ?_
  refine r_iload_n (n := 2) 1 dX11_readsWinds_1 rfl rfl ?_
  refine r_aload_n (n := 3) 0 dX11_readsWinds_2 rfl rfl ?_
  refine rs_getI (n := 6) cls_10 15 fi_10_15 so_129 gw_1041 dX11_readsWinds_3 rfl ?_
  refine rs_cVi (n := 9) (rest := []) (As := [.int _, .int _]) vm_X11_byteAt gw_1223 so_129 cq_10 dX11_readsWinds_6 rfl rfl (Nat.le_of_ble_eq_true rfl) rfl (CI.mono H (fun r1 I2 X3 H => ?_))
  refine r_bipush (n := 11) (v := 118) dX11_readsWinds_9 kb_118 rfl ?_
  refine r_icmp_eq (n := 14) (tgt := 16) dX11_readsWinds_11 (by decide) rfl (fun c => ?_) (fun c => ?_)
  · have H := H.1 c
    refine r_aload_n (n := 17) 0 dX11_readsWinds_16 rfl rfl ?_
    refine r_dup (n := 18) dX11_readsWinds_17 rfl rfl ?_
    refine rs_getI (n := 21) cls_10 15 fi_10_15 so_129 gw_1041 dX11_readsWinds_18 rfl ?_
    refine r_iconst (n := 22) (v := 1) dX11_readsWinds_21 ki_1 rfl ?_
    refine r_iadd (n := 23) dX11_readsWinds_22 rfl ?_
    have H := H _ rfl
    refine rs_putI (n := 26) cls_10 15 fp_10_15 so_129 gw_1041 dX11_readsWinds_23 rfl ?_
    exact r_sub [0, 1] rfl H
  · have H := H.2 c
    refine r_iconst (n := 15) (v := 0) dX11_readsWinds_14 ki_0 rfl ?_
    exact rs_zret dX11_readsWinds_15 rfl (by decide) H
set_option maxRecDepth 20000 in
theorem rg_X11_readsWinds_26 {g : OG} {d : Nat} {I : IT} {X : XT} {K : Int32 → IT → XT → Prop} {l1 : Int32} 
    (H : CI g d iX11_figureAt [rf g 129, .int l1] I X (fun r1 I2 X3 =>
        (r1 = ((-9)) →
          ((I2 129 17) ≤ 0 →
            K 0 I2 X3) ∧
          (¬ (I2 129 17) ≤ 0 →
            K 1 I2 X3)) ∧
        (¬ r1 = ((-9)) →
          CI g d iX11_figureAt [rf g 129, .int l1] I2 X3 (fun r4 I5 X6 =>
            (2 < r4 →
              K 0 I5 X6) ∧
            (¬ 2 < r4 →
              (¬ (I5 129 17) = 6 →
                CI g d iX11_figureAt [rf g 129, .int l1] I5 X6 (fun r7 I8 X9 =>
                  vp_in (I5 129 17) 6 ∧
                  ∀ I11 : IT, I11 = set2 I8 139 (I5 129 17).toNatClampNeg r7 →
                  ∀ I12 : IT, I12 = set2 I11 129 17 ((I11 129 17) + 1) →
                  ∀ I13 : IT, I13 = set2 I12 129 15 ((I12 129 15) + 1) →
                  SR g (d + 1) iX11_readsWinds 26 [(0, rf g 129), (1, .int l1)] I13 X9 (qI K))) ∧
              ((I5 129 17) = 6 →
                K 0 I5 X6)))))) : SR g (d + 1) iX11_readsWinds 26 [(0, rf g 129), (1, .int l1)] I X (qI K) := by
  refine r_aload_n (n := 27) 0 dX11_readsWinds_26 rfl rfl ?_
  refine r_iload_n (n := 28) 1 dX11_readsWinds_27 rfl rfl ?_
  refine rs_cVi (n := 31) (rest := []) (As := [.int _]) vm_X11_figureAt gw_1231 so_129 cq_10 dX11_readsWinds_28 rfl rfl (Nat.le_of_ble_eq_true rfl) rfl (CI.mono H (fun r1 I2 X3 H => ?_))
  refine r_bipush (n := 33) (v := (-9)) dX11_readsWinds_31 kb_m9 rfl ?_
  refine r_icmp_eq (n := 36) (tgt := 93) dX11_readsWinds_33 (by decide) rfl (fun c => ?_) (fun c => ?_)
  · have H := H.1 c
    refine r_aload_n (n := 94) 0 dX11_readsWinds_93 rfl rfl ?_
    refine rs_getI (n := 97) cls_10 17 fi_10_17 so_129 gw_1043 dX11_readsWinds_94 rfl ?_
    refine r_if_le (n := 100) (tgt := 104) dX11_readsWinds_97 (by decide) rfl (fun c => ?_) (fun c => ?_)
    · have H := H.1 c
      refine r_iconst (n := 105) (v := 0) dX11_readsWinds_104 ki_0 rfl ?_
      exact rs_zret dX11_readsWinds_105 rfl (by decide) H
    · have H := H.2 c
      refine r_iconst (n := 101) (v := 1) dX11_readsWinds_100 ki_1 rfl ?_
      refine r_goto (n := 105) dX11_readsWinds_101 (by decide) ?_
      exact rs_zret dX11_readsWinds_105 rfl (by decide) H
  · have H := H.2 c
    refine r_aload_n (n := 37) 0 dX11_readsWinds_36 rfl rfl ?_
    refine r_iload_n (n := 38) 1 dX11_readsWinds_37 rfl rfl ?_
    refine rs_cVi (n := 41) (rest := []) (As := [.int _]) vm_X11_figureAt gw_1231 so_129 cq_10 dX11_readsWinds_38 rfl rfl (Nat.le_of_ble_eq_true rfl) rfl (CI.mono H (fun r4 I5 X6 H => ?_))
    refine r_iconst (n := 42) (v := 2) dX11_readsWinds_41 ki_2 rfl ?_
    refine r_icmp_gt (n := 45) (tgt := 54) dX11_readsWinds_42 (by decide) rfl (fun c => ?_) (fun c => ?_)
    · have H := H.1 c
      refine r_iconst (n := 55) (v := 0) dX11_readsWinds_54 ki_0 rfl ?_
      exact rs_zret dX11_readsWinds_55 rfl (by decide) H
    · have H := H.2 c
      refine r_aload_n (n := 46) 0 dX11_readsWinds_45 rfl rfl ?_
      refine rs_getI (n := 49) cls_10 17 fi_10_17 so_129 gw_1043 dX11_readsWinds_46 rfl ?_
      refine r_bipush (n := 51) (v := 6) dX11_readsWinds_49 kb_6 rfl ?_
      refine r_icmp_ne (n := 54) (tgt := 56) dX11_readsWinds_51 (by decide) rfl (fun c => ?_) (fun c => ?_)
      · have H := H.1 c
        refine r_aload_n (n := 57) 0 dX11_readsWinds_56 rfl rfl ?_
        refine r_getR (n := 60) cls_10 18 fi_10_18 so_129 gw_1044 dX11_readsWinds_57 rfl sr_129_18 (by decide) ?_
        refine r_aload_n (n := 61) 0 dX11_readsWinds_60 rfl rfl ?_
        refine rs_getI (n := 64) cls_10 17 fi_10_17 so_129 gw_1043 dX11_readsWinds_61 rfl ?_
        refine r_aload_n (n := 65) 0 dX11_readsWinds_64 rfl rfl ?_
        refine r_iload_n (n := 66) 1 dX11_readsWinds_65 rfl rfl ?_
        refine rs_cVi (n := 69) (rest := [.int _, .ref _]) (As := [.int _]) vm_X11_figureAt gw_1231 so_129 cq_10 dX11_readsWinds_66 rfl rfl (Nat.le_of_ble_eq_true rfl) rfl (CI.mono H (fun r7 I8 X9 H => ?_))
        obtain ⟨hi10, H⟩ := H
        have H := H _ rfl
        refine rs_iast (n := 70) sa_139 hi10 dX11_readsWinds_69 rfl ?_
        refine r_aload_n (n := 71) 0 dX11_readsWinds_70 rfl rfl ?_
        refine r_dup (n := 72) dX11_readsWinds_71 rfl rfl ?_
        refine rs_getI (n := 75) cls_10 17 fi_10_17 so_129 gw_1043 dX11_readsWinds_72 rfl ?_
        refine r_iconst (n := 76) (v := 1) dX11_readsWinds_75 ki_1 rfl ?_
        refine r_iadd (n := 77) dX11_readsWinds_76 rfl ?_
        have H := H _ rfl
        refine rs_putI (n := 80) cls_10 17 fp_10_17 so_129 gw_1043 dX11_readsWinds_77 rfl ?_
        refine r_aload_n (n := 81) 0 dX11_readsWinds_80 rfl rfl ?_
        refine r_dup (n := 82) dX11_readsWinds_81 rfl rfl ?_
        refine rs_getI (n := 85) cls_10 15 fi_10_15 so_129 gw_1041 dX11_readsWinds_82 rfl ?_
        refine r_iconst (n := 86) (v := 1) dX11_readsWinds_85 ki_1 rfl ?_
        refine r_iadd (n := 87) dX11_readsWinds_86 rfl ?_
        have H := H _ rfl
        refine rs_putI (n := 90) cls_10 15 fp_10_15 so_129 gw_1041 dX11_readsWinds_87 rfl ?_
        refine r_goto (n := 26) dX11_readsWinds_90 (by decide) ?_
        exact r_sub [0, 1] rfl H
      · have H := H.2 c
        refine r_iconst (n := 55) (v := 0) dX11_readsWinds_54 ki_0 rfl ?_
        exact rs_zret dX11_readsWinds_55 rfl (by decide) H
set_option maxRecDepth 20000 in
theorem en_X11_readsHouse {g : OG} {d : Nat} {I : IT} {X : XT} {K : Int32 → IT → XT → Prop} {l1 : Int32} 
    (H : CI g d iX11_byteAt [rf g 129, .int l1, .int (I 129 15)] I X (fun r1 I2 X3 =>
        CI g d iX11_kindOf [.int r1] I2 X3 (fun r4 I5 X6 =>
          (r4 = ((-9)) →
            K 0 I5 X6) ∧
          (¬ r4 = ((-9)) →
            (¬ (I5 129 16) = 5 →
              ∀ x7 : Int32, x7 = 4 * (I5 129 16) →
              ∀ I8 : IT, I8 = set2 I5 129 15 ((I5 129 15) + 1) →
              vp_in x7 20 ∧
              ∀ I10 : IT, I10 = set2 I8 140 x7.toNatClampNeg r4 →
              SR g (d + 1) iX11_readsHouse 56 [(0, rf g 129), (1, .int l1), (3, .int x7), (4, .int 1)] I10 X6 (qI K)) ∧
            ((I5 129 16) = 5 →
              K 0 I5 X6))))) : CI g (d + 1) iX11_readsHouse [rf g 129, .int l1] I X K := by
  refine ocall_of (by decide) (Nat.le_of_ble_eq_true rfl) ?_
  show SR g (d + 1) iX11_readsHouse 0 [(0, rf g 129), (1, .int l1)] I X (qI K)
  refine r_aload_n (n := 1) 0 dX11_readsHouse_0 rfl rfl ?_
  refine r_iload_n (n := 2) 1 dX11_readsHouse_1 rfl rfl ?_
  refine r_aload_n (n := 3) 0 dX11_readsHouse_2 rfl rfl ?_
  refine rs_getI (n := 6) cls_10 15 fi_10_15 so_129 gw_1041 dX11_readsHouse_3 rfl ?_
  refine rs_cVi (n := 9) (rest := []) (As := [.int _, .int _]) vm_X11_byteAt gw_1223 so_129 cq_10 dX11_readsHouse_6 rfl rfl (Nat.le_of_ble_eq_true rfl) rfl (CI.mono H (fun r1 I2 X3 H => ?_))
  refine rs_cSi (n := 12) (rest := []) (As := [.int _]) sm_X11_kindOf gw_1239 dX11_readsHouse_9 rfl rfl (Nat.le_of_ble_eq_true rfl) rfl (CI.mono H (fun r4 I5 X6 H => ?_))
  refine r_istore_n (n := 13) (lv' := [(2, .int _), (0, .ref _), (1, .int _)]) dX11_readsHouse_12 rfl (by decide) rfl rfl ?_
  refine r_iload_n (n := 14) 0 dX11_readsHouse_13 rfl rfl ?_
  refine r_bipush (n := 16) (v := (-9)) dX11_readsHouse_14 kb_m9 rfl ?_
  refine r_icmp_eq (n := 19) (tgt := 27) dX11_readsHouse_16 (by decide) rfl (fun c => ?_) (fun c => ?_)
  · have H := H.1 c
    refine r_iconst (n := 28) (v := 0) dX11_readsHouse_27 ki_0 rfl ?_
    exact rs_zret dX11_readsHouse_28 rfl (by decide) H
  · have H := H.2 c
    refine r_aload_n (n := 20) 1 dX11_readsHouse_19 rfl rfl ?_
    refine rs_getI (n := 23) cls_10 16 fi_10_16 so_129 gw_1042 dX11_readsHouse_20 rfl ?_
    refine r_iconst (n := 24) (v := 5) dX11_readsHouse_23 ki_5 rfl ?_
    refine r_icmp_ne (n := 27) (tgt := 29) dX11_readsHouse_24 (by decide) rfl (fun c => ?_) (fun c => ?_)
    · have H := H.1 c
      refine r_iconst (n := 30) (v := 4) dX11_readsHouse_29 ki_4 rfl ?_
      refine r_aload_n (n := 31) 1 dX11_readsHouse_30 rfl rfl ?_
      refine rs_getI (n := 34) cls_10 16 fi_10_16 so_129 gw_1042 dX11_readsHouse_31 rfl ?_
      refine r_imul (n := 35) dX11_readsHouse_34 rfl ?_
      have H := H _ rfl
      refine r_istore_n (n := 36) (lv' := [(3, .int _), (2, .int _), (0, .ref _), (1, .int _)]) dX11_readsHouse_35 rfl (by decide) rfl rfl ?_
      refine r_aload_n (n := 37) 2 dX11_readsHouse_36 rfl rfl ?_
      refine r_dup (n := 38) dX11_readsHouse_37 rfl rfl ?_
      refine rs_getI (n := 41) cls_10 15 fi_10_15 so_129 gw_1041 dX11_readsHouse_38 rfl ?_
      refine r_iconst (n := 42) (v := 1) dX11_readsHouse_41 ki_1 rfl ?_
      refine r_iadd (n := 43) dX11_readsHouse_42 rfl ?_
      have H := H _ rfl
      refine rs_putI (n := 46) cls_10 15 fp_10_15 so_129 gw_1041 dX11_readsHouse_43 rfl ?_
      refine r_aload_n (n := 47) 2 dX11_readsHouse_46 rfl rfl ?_
      refine r_getR (n := 50) cls_10 19 fi_10_19 so_129 gw_1045 dX11_readsHouse_47 rfl sr_129_19 (by decide) ?_
      refine r_iload_n (n := 51) 0 dX11_readsHouse_50 rfl rfl ?_
      refine r_iload_n (n := 52) 1 dX11_readsHouse_51 rfl rfl ?_
      obtain ⟨hi9, H⟩ := H
      have H := H _ rfl
      refine rs_iast (n := 53) sa_140 hi9 dX11_readsHouse_52 rfl ?_
      refine r_iconst (n := 54) (v := 1) dX11_readsHouse_53 ki_1 rfl ?_
      refine r_istore (n := 56) (lv' := [(4, .int _), (3, .int _), (2, .int _), (0, .ref _), (1, .int _)]) dX11_readsHouse_54 (by decide) rfl rfl ?_
      exact r_sub [3, 4, 1, 0] rfl H
    · have H := H.2 c
      refine r_iconst (n := 28) (v := 0) dX11_readsHouse_27 ki_0 rfl ?_
      exact rs_zret dX11_readsHouse_28 rfl (by decide) H
set_option maxRecDepth 20000 in
theorem rg_X11_readsHouse_56 {g : OG} {d : Nat} {I : IT} {X : XT} {K : Int32 → IT → XT → Prop} {l1 : Int32} {l3 : Int32} {l4 : Int32} 
    (H : (3 ≤ l4 →
        CI g d iX11_byteAt [rf g 129, .int l1, .int (I 129 15)] I X (fun r1 I2 X3 =>
          (r1 = 45 →
            CI g d iX11_figureAt [rf g 129, .int l1] I2 X3 (fun r4 I5 X6 =>
              vp_in (l3 + 3) 20 ∧
              ∀ I8 : IT, I8 = set2 I5 140 (l3 + 3).toNatClampNeg r4 →
              ∀ I9 : IT, I9 = set2 I8 129 15 ((I8 129 15) + 1) →
              ∀ I10 : IT, I10 = set2 I9 129 16 ((I9 129 16) + 1) →
              K 1 I10 X6)) ∧
          (¬ r1 = 45 →
            CI g d iX11_figureAt [rf g 129, .int l1] I2 X3 (fun r11 I12 X13 =>
              (¬ r11 = ((-9)) →
                CI g d iX11_figureAt [rf g 129, .int l1] I12 X13 (fun r14 I15 X16 =>
                  vp_in (l3 + 3) 20 ∧
                  ∀ I18 : IT, I18 = set2 I15 140 (l3 + 3).toNatClampNeg r14 →
                  ∀ I19 : IT, I19 = set2 I18 129 15 ((I18 129 15) + 1) →
                  ∀ I20 : IT, I20 = set2 I19 129 16 ((I19 129 16) + 1) →
                  K 1 I20 X16)) ∧
              (r11 = ((-9)) →
                K 0 I12 X13))))) ∧
      (¬ 3 ≤ l4 →
        CI g d iX11_figureAt [rf g 129, .int l1] I X (fun r21 I22 X23 =>
          (r21 = ((-9)) →
            K 0 I22 X23) ∧
          (¬ r21 = ((-9)) →
            (¬ l4 = 2 →
              vp_in (l3 + l4) 20 ∧
              ∀ I25 : IT, I25 = set2 I22 140 (l3 + l4).toNatClampNeg r21 →
              ∀ I26 : IT, I26 = set2 I25 129 15 ((I25 129 15) + 1) →
              ∀ x27 : Int32, x27 = l4 + 1 →
              SR g (d + 1) iX11_readsHouse 56 [(0, rf g 129), (1, .int l1), (3, .int l3), (4, .int x27)] I26 X23 (qI K)) ∧
            (l4 = 2 →
              (r21 ≤ 3 →
                vp_in (l3 + l4) 20 ∧
                ∀ I29 : IT, I29 = set2 I22 140 (l3 + l4).toNatClampNeg r21 →
                ∀ I30 : IT, I30 = set2 I29 129 15 ((I29 129 15) + 1) →
                ∀ x31 : Int32, x31 = l4 + 1 →
                SR g (d + 1) iX11_readsHouse 56 [(0, rf g 129), (1, .int l1), (3, .int l3), (4, .int x31)] I30 X23 (qI K)) ∧
              (¬ r21 ≤ 3 →
                K 0 I22 X23)))))) : SR g (d + 1) iX11_readsHouse 56 [(0, rf g 129), (1, .int l1), (3, .int l3), (4, .int l4)] I X (qI K) := by
  refine r_iload (n := 58) 3 dX11_readsHouse_56 rfl rfl ?_
  refine r_iconst (n := 59) (v := 3) dX11_readsHouse_58 ki_3 rfl ?_
  refine r_icmp_ge (n := 62) (tgt := 117) dX11_readsHouse_59 (by decide) rfl (fun c => ?_) (fun c => ?_)
  · have H := H.1 c
    refine r_aload_n (n := 118) 0 dX11_readsHouse_117 rfl rfl ?_
    refine r_iload_n (n := 119) 1 dX11_readsHouse_118 rfl rfl ?_
    refine r_aload_n (n := 120) 0 dX11_readsHouse_119 rfl rfl ?_
    refine rs_getI (n := 123) cls_10 15 fi_10_15 so_129 gw_1041 dX11_readsHouse_120 rfl ?_
    refine rs_cVi (n := 126) (rest := []) (As := [.int _, .int _]) vm_X11_byteAt gw_1223 so_129 cq_10 dX11_readsHouse_123 rfl rfl (Nat.le_of_ble_eq_true rfl) rfl (CI.mono H (fun r1 I2 X3 H => ?_))
    refine r_bipush (n := 128) (v := 45) dX11_readsHouse_126 kb_45 rfl ?_
    refine r_icmp_eq (n := 131) (tgt := 143) dX11_readsHouse_128 (by decide) rfl (fun c => ?_) (fun c => ?_)
    · have H := H.1 c
      refine r_aload_n (n := 144) 0 dX11_readsHouse_143 rfl rfl ?_
      refine r_getR (n := 147) cls_10 19 fi_10_19 so_129 gw_1045 dX11_readsHouse_144 rfl sr_129_19 (by decide) ?_
      refine r_iload_n (n := 148) 2 dX11_readsHouse_147 rfl rfl ?_
      refine r_iconst (n := 149) (v := 3) dX11_readsHouse_148 ki_3 rfl ?_
      refine r_iadd (n := 150) dX11_readsHouse_149 rfl ?_
      refine r_aload_n (n := 151) 0 dX11_readsHouse_150 rfl rfl ?_
      refine r_iload_n (n := 152) 1 dX11_readsHouse_151 rfl rfl ?_
      refine rs_cVi (n := 155) (rest := [.int _, .ref _]) (As := [.int _]) vm_X11_figureAt gw_1231 so_129 cq_10 dX11_readsHouse_152 rfl rfl (Nat.le_of_ble_eq_true rfl) rfl (CI.mono H (fun r4 I5 X6 H => ?_))
      obtain ⟨hi7, H⟩ := H
      have H := H _ rfl
      refine rs_iast (n := 156) sa_140 hi7 dX11_readsHouse_155 rfl ?_
      refine r_aload_n (n := 157) 0 dX11_readsHouse_156 rfl rfl ?_
      refine r_dup (n := 158) dX11_readsHouse_157 rfl rfl ?_
      refine rs_getI (n := 161) cls_10 15 fi_10_15 so_129 gw_1041 dX11_readsHouse_158 rfl ?_
      refine r_iconst (n := 162) (v := 1) dX11_readsHouse_161 ki_1 rfl ?_
      refine r_iadd (n := 163) dX11_readsHouse_162 rfl ?_
      have H := H _ rfl
      refine rs_putI (n := 166) cls_10 15 fp_10_15 so_129 gw_1041 dX11_readsHouse_163 rfl ?_
      refine r_aload_n (n := 167) 0 dX11_readsHouse_166 rfl rfl ?_
      refine r_dup (n := 168) dX11_readsHouse_167 rfl rfl ?_
      refine rs_getI (n := 171) cls_10 16 fi_10_16 so_129 gw_1042 dX11_readsHouse_168 rfl ?_
      refine r_iconst (n := 172) (v := 1) dX11_readsHouse_171 ki_1 rfl ?_
      refine r_iadd (n := 173) dX11_readsHouse_172 rfl ?_
      have H := H _ rfl
      refine rs_putI (n := 176) cls_10 16 fp_10_16 so_129 gw_1042 dX11_readsHouse_173 rfl ?_
      refine r_iconst (n := 177) (v := 1) dX11_readsHouse_176 ki_1 rfl ?_
      exact rs_zret dX11_readsHouse_177 rfl (by decide) H
    · have H := H.2 c
      refine r_aload_n (n := 132) 0 dX11_readsHouse_131 rfl rfl ?_
      refine r_iload_n (n := 133) 1 dX11_readsHouse_132 rfl rfl ?_
      refine rs_cVi (n := 136) (rest := []) (As := [.int _]) vm_X11_figureAt gw_1231 so_129 cq_10 dX11_readsHouse_133 rfl rfl (Nat.le_of_ble_eq_true rfl) rfl (CI.mono H (fun r11 I12 X13 H => ?_))
      refine r_bipush (n := 138) (v := (-9)) dX11_readsHouse_136 kb_m9 rfl ?_
      refine r_icmp_ne (n := 141) (tgt := 143) dX11_readsHouse_138 (by decide) rfl (fun c => ?_) (fun c => ?_)
      · have H := H.1 c
        refine r_aload_n (n := 144) 0 dX11_readsHouse_143 rfl rfl ?_
        refine r_getR (n := 147) cls_10 19 fi_10_19 so_129 gw_1045 dX11_readsHouse_144 rfl sr_129_19 (by decide) ?_
        refine r_iload_n (n := 148) 2 dX11_readsHouse_147 rfl rfl ?_
        refine r_iconst (n := 149) (v := 3) dX11_readsHouse_148 ki_3 rfl ?_
        refine r_iadd (n := 150) dX11_readsHouse_149 rfl ?_
        refine r_aload_n (n := 151) 0 dX11_readsHouse_150 rfl rfl ?_
        refine r_iload_n (n := 152) 1 dX11_readsHouse_151 rfl rfl ?_
        refine rs_cVi (n := 155) (rest := [.int _, .ref _]) (As := [.int _]) vm_X11_figureAt gw_1231 so_129 cq_10 dX11_readsHouse_152 rfl rfl (Nat.le_of_ble_eq_true rfl) rfl (CI.mono H (fun r14 I15 X16 H => ?_))
        obtain ⟨hi17, H⟩ := H
        have H := H _ rfl
        refine rs_iast (n := 156) sa_140 hi17 dX11_readsHouse_155 rfl ?_
        refine r_aload_n (n := 157) 0 dX11_readsHouse_156 rfl rfl ?_
        refine r_dup (n := 158) dX11_readsHouse_157 rfl rfl ?_
        refine rs_getI (n := 161) cls_10 15 fi_10_15 so_129 gw_1041 dX11_readsHouse_158 rfl ?_
        refine r_iconst (n := 162) (v := 1) dX11_readsHouse_161 ki_1 rfl ?_
        refine r_iadd (n := 163) dX11_readsHouse_162 rfl ?_
        have H := H _ rfl
        refine rs_putI (n := 166) cls_10 15 fp_10_15 so_129 gw_1041 dX11_readsHouse_163 rfl ?_
        refine r_aload_n (n := 167) 0 dX11_readsHouse_166 rfl rfl ?_
        refine r_dup (n := 168) dX11_readsHouse_167 rfl rfl ?_
        refine rs_getI (n := 171) cls_10 16 fi_10_16 so_129 gw_1042 dX11_readsHouse_168 rfl ?_
        refine r_iconst (n := 172) (v := 1) dX11_readsHouse_171 ki_1 rfl ?_
        refine r_iadd (n := 173) dX11_readsHouse_172 rfl ?_
        have H := H _ rfl
        refine rs_putI (n := 176) cls_10 16 fp_10_16 so_129 gw_1042 dX11_readsHouse_173 rfl ?_
        refine r_iconst (n := 177) (v := 1) dX11_readsHouse_176 ki_1 rfl ?_
        exact rs_zret dX11_readsHouse_177 rfl (by decide) H
      · have H := H.2 c
        refine r_iconst (n := 142) (v := 0) dX11_readsHouse_141 ki_0 rfl ?_
        exact rs_zret dX11_readsHouse_142 rfl (by decide) H
  · have H := H.2 c
    refine r_aload_n (n := 63) 0 dX11_readsHouse_62 rfl rfl ?_
    refine r_iload_n (n := 64) 1 dX11_readsHouse_63 rfl rfl ?_
    refine rs_cVi (n := 67) (rest := []) (As := [.int _]) vm_X11_figureAt gw_1231 so_129 cq_10 dX11_readsHouse_64 rfl rfl (Nat.le_of_ble_eq_true rfl) rfl (CI.mono H (fun r21 I22 X23 H => ?_))
    refine r_istore (n := 69) (lv' := [(5, .int _), (0, .ref _), (1, .int _), (3, .int _), (4, .int _)]) dX11_readsHouse_67 (by decide) rfl rfl ?_
    refine r_iload (n := 71) 0 dX11_readsHouse_69 rfl rfl ?_
    refine r_bipush (n := 73) (v := (-9)) dX11_readsHouse_71 kb_m9 rfl ?_
    refine r_icmp_eq (n := 76) (tgt := 88) dX11_readsHouse_73 (by decide) rfl (fun c => ?_) (fun c => ?_)
    · have H := H.1 c
      refine r_iconst (n := 89) (v := 0) dX11_readsHouse_88 ki_0 rfl ?_
      exact rs_zret dX11_readsHouse_89 rfl (by decide) H
    · have H := H.2 c
      refine r_iload (n := 78) 4 dX11_readsHouse_76 rfl rfl ?_
      refine r_iconst (n := 79) (v := 2) dX11_readsHouse_78 ki_2 rfl ?_
      refine r_icmp_ne (n := 82) (tgt := 90) dX11_readsHouse_79 (by decide) rfl (fun c => ?_) (fun c => ?_)
      · have H := H.1 c
        refine r_aload_n (n := 91) 1 dX11_readsHouse_90 rfl rfl ?_
        refine r_getR (n := 94) cls_10 19 fi_10_19 so_129 gw_1045 dX11_readsHouse_91 rfl sr_129_19 (by decide) ?_
        refine r_iload_n (n := 95) 3 dX11_readsHouse_94 rfl rfl ?_
        refine r_iload (n := 97) 4 dX11_readsHouse_95 rfl rfl ?_
        refine r_iadd (n := 98) dX11_readsHouse_97 rfl ?_
        refine r_iload (n := 100) 0 dX11_readsHouse_98 rfl rfl ?_
        obtain ⟨hi24, H⟩ := H
        have H := H _ rfl
        refine rs_iast (n := 101) sa_140 hi24 dX11_readsHouse_100 rfl ?_
        refine r_aload_n (n := 102) 1 dX11_readsHouse_101 rfl rfl ?_
        refine r_dup (n := 103) dX11_readsHouse_102 rfl rfl ?_
        refine rs_getI (n := 106) cls_10 15 fi_10_15 so_129 gw_1041 dX11_readsHouse_103 rfl ?_
        refine r_iconst (n := 107) (v := 1) dX11_readsHouse_106 ki_1 rfl ?_
        refine r_iadd (n := 108) dX11_readsHouse_107 rfl ?_
        have H := H _ rfl
        refine rs_putI (n := 111) cls_10 15 fp_10_15 so_129 gw_1041 dX11_readsHouse_108 rfl ?_
        have H := H _ rfl
        refine r_iinc (n := 114) (lv' := [(4, .int _), (5, .int _), (0, .ref _), (1, .int _), (3, .int _)]) 4 dX11_readsHouse_111 rfl rfl (by decide) rfl rfl ?_
        refine r_goto (n := 56) dX11_readsHouse_114 (by decide) ?_
        exact r_sub [2, 3, 4, 0] rfl H
      · have H := H.2 c
        refine r_iload (n := 84) 0 dX11_readsHouse_82 rfl rfl ?_
        refine r_iconst (n := 85) (v := 3) dX11_readsHouse_84 ki_3 rfl ?_
        refine r_icmp_le (n := 88) (tgt := 90) dX11_readsHouse_85 (by decide) rfl (fun c => ?_) (fun c => ?_)
        · have H := H.1 c
          refine r_aload_n (n := 91) 1 dX11_readsHouse_90 rfl rfl ?_
          refine r_getR (n := 94) cls_10 19 fi_10_19 so_129 gw_1045 dX11_readsHouse_91 rfl sr_129_19 (by decide) ?_
          refine r_iload_n (n := 95) 3 dX11_readsHouse_94 rfl rfl ?_
          refine r_iload (n := 97) 4 dX11_readsHouse_95 rfl rfl ?_
          refine r_iadd (n := 98) dX11_readsHouse_97 rfl ?_
          refine r_iload (n := 100) 0 dX11_readsHouse_98 rfl rfl ?_
          obtain ⟨hi28, H⟩ := H
          have H := H _ rfl
          refine rs_iast (n := 101) sa_140 hi28 dX11_readsHouse_100 rfl ?_
          refine r_aload_n (n := 102) 1 dX11_readsHouse_101 rfl rfl ?_
          refine r_dup (n := 103) dX11_readsHouse_102 rfl rfl ?_
          refine rs_getI (n := 106) cls_10 15 fi_10_15 so_129 gw_1041 dX11_readsHouse_103 rfl ?_
          refine r_iconst (n := 107) (v := 1) dX11_readsHouse_106 ki_1 rfl ?_
          refine r_iadd (n := 108) dX11_readsHouse_107 rfl ?_
          have H := H _ rfl
          refine rs_putI (n := 111) cls_10 15 fp_10_15 so_129 gw_1041 dX11_readsHouse_108 rfl ?_
          have H := H _ rfl
          refine r_iinc (n := 114) (lv' := [(4, .int _), (5, .int _), (0, .ref _), (1, .int _), (3, .int _)]) 4 dX11_readsHouse_111 rfl rfl (by decide) rfl rfl ?_
          refine r_goto (n := 56) dX11_readsHouse_114 (by decide) ?_
          exact r_sub [2, 3, 4, 0] rfl H
        · have H := H.2 c
          refine r_iconst (n := 89) (v := 0) dX11_readsHouse_88 ki_0 rfl ?_
          exact rs_zret dX11_readsHouse_89 rfl (by decide) H
set_option maxRecDepth 20000 in
theorem en_X11_faultOf {g : OG} {d : Nat} {I : IT} {X : XT} {K : Int32 → IT → XT → Prop} {l1 : Int32} 
    (H : ∀ I1 : IT, I1 = set2 I 129 15 0 →
      ∀ I2 : IT, I2 = set2 I1 129 16 0 →
      ∀ I3 : IT, I3 = set2 I2 129 17 0 →
      SR g (d + 1) iX11_faultOf 15 [(0, rf g 129), (1, .int l1)] I3 X (qI K)) : CI g (d + 1) iX11_faultOf [rf g 129, .int l1] I X K := by
  refine ocall_of (by decide) (Nat.le_of_ble_eq_true rfl) ?_
  show SR g (d + 1) iX11_faultOf 0 [(0, rf g 129), (1, .int l1)] I X (qI K)
  refine r_aload_n (n := 1) 0 dX11_faultOf_0 rfl rfl ?_
  refine r_iconst (n := 2) (v := 0) dX11_faultOf_1 ki_0 rfl ?_
  have H := H _ rfl
  refine rs_putI (n := 5) cls_10 15 fp_10_15 so_129 gw_1041 dX11_faultOf_2 rfl ?_
  refine r_aload_n (n := 6) 0 dX11_faultOf_5 rfl rfl ?_
  refine r_iconst (n := 7) (v := 0) dX11_faultOf_6 ki_0 rfl ?_
  have H := H _ rfl
  refine rs_putI (n := 10) cls_10 16 fp_10_16 so_129 gw_1042 dX11_faultOf_7 rfl ?_
  refine r_aload_n (n := 11) 0 dX11_faultOf_10 rfl rfl ?_
  refine r_iconst (n := 12) (v := 0) dX11_faultOf_11 ki_0 rfl ?_
  have H := H _ rfl
  refine rs_putI (n := 15) cls_10 17 fp_10_17 so_129 gw_1043 dX11_faultOf_12 rfl ?_
  exact r_sub [0, 1] rfl H
set_option maxRecDepth 20000 in
theorem rg_X11_faultOf_15 {g : OG} {d : Nat} {I : IT} {X : XT} {K : Int32 → IT → XT → Prop} {l1 : Int32} 
    (H : vp_in l1 4 ∧
      ((I 134 l1.toNatClampNeg) ≤ (I 129 15) →
        (¬ (I 129 16) = 0 →
          K ((-9)) I X) ∧
        ((I 129 16) = 0 →
          vp_in l1 4 ∧
          K (I 134 l1.toNatClampNeg) I X)) ∧
      (¬ (I 134 l1.toNatClampNeg) ≤ (I 129 15) →
        CI g d iX11_byteAt [rf g 129, .int l1, .int (I 129 15)] I X (fun r3 I4 X5 =>
          (¬ r3 = 32 →
            (¬ (I4 129 17) = 0 →
              CI g d iX11_readsHouse [rf g 129, .int l1] I4 X5 (fun r6 I7 X8 =>
                (¬ r6 = 0 →
                  SR g (d + 1) iX11_faultOf 15 [(0, rf g 129), (1, .int l1)] I7 X8 (qI K)) ∧
                (r6 = 0 →
                  K (I7 129 15) I7 X8))) ∧
            ((I4 129 17) = 0 →
              CI g d iX11_readsWinds [rf g 129, .int l1] I4 X5 (fun r9 I10 X11 =>
                (r9 = 0 →
                  K (I10 129 15) I10 X11) ∧
                (¬ r9 = 0 →
                  SR g (d + 1) iX11_faultOf 15 [(0, rf g 129), (1, .int l1)] I10 X11 (qI K))))) ∧
          (r3 = 32 →
            ∀ I12 : IT, I12 = set2 I4 129 15 ((I4 129 15) + 1) →
            SR g (d + 1) iX11_faultOf 15 [(0, rf g 129), (1, .int l1)] I12 X5 (qI K))))) : SR g (d + 1) iX11_faultOf 15 [(0, rf g 129), (1, .int l1)] I X (qI K) := by
  refine r_aload_n (n := 16) 0 dX11_faultOf_15 rfl rfl ?_
  refine rs_getI (n := 19) cls_10 15 fi_10_15 so_129 gw_1041 dX11_faultOf_16 rfl ?_
  refine r_aload_n (n := 20) 0 dX11_faultOf_19 rfl rfl ?_
  refine r_getR (n := 23) cls_10 8 fi_10_8 so_129 gw_1034 dX11_faultOf_20 rfl sr_129_8 (by decide) ?_
  refine r_iload_n (n := 24) 1 dX11_faultOf_23 rfl rfl ?_
  obtain ⟨hi1, H⟩ := H
  refine rs_iald (n := 25) sa_134 hi1 dX11_faultOf_24 rfl ?_
  refine r_icmp_ge (n := 28) (tgt := 86) dX11_faultOf_25 (by decide) rfl (fun c => ?_) (fun c => ?_)
  · have H := H.1 c
    refine r_aload_n (n := 87) 0 dX11_faultOf_86 rfl rfl ?_
    refine rs_getI (n := 90) cls_10 16 fi_10_16 so_129 gw_1042 dX11_faultOf_87 rfl ?_
    refine r_if_ne (n := 93) (tgt := 102) dX11_faultOf_90 (by decide) rfl (fun c => ?_) (fun c => ?_)
    · have H := H.1 c
      refine r_bipush (n := 104) (v := (-9)) dX11_faultOf_102 kb_m9 rfl ?_
      exact rs_iret dX11_faultOf_104 rfl H
    · have H := H.2 c
      refine r_aload_n (n := 94) 0 dX11_faultOf_93 rfl rfl ?_
      refine r_getR (n := 97) cls_10 8 fi_10_8 so_129 gw_1034 dX11_faultOf_94 rfl sr_129_8 (by decide) ?_
      refine r_iload_n (n := 98) 1 dX11_faultOf_97 rfl rfl ?_
      obtain ⟨hi2, H⟩ := H
      refine rs_iald (n := 99) sa_134 hi2 dX11_faultOf_98 rfl ?_
      refine r_goto (n := 104) dX11_faultOf_99 (by decide) ?_
      exact rs_iret dX11_faultOf_104 rfl H
  · have H := H.2 c
    refine r_aload_n (n := 29) 0 dX11_faultOf_28 rfl rfl ?_
    refine r_iload_n (n := 30) 1 dX11_faultOf_29 rfl rfl ?_
    refine r_aload_n (n := 31) 0 dX11_faultOf_30 rfl rfl ?_
    refine rs_getI (n := 34) cls_10 15 fi_10_15 so_129 gw_1041 dX11_faultOf_31 rfl ?_
    refine rs_cVi (n := 37) (rest := []) (As := [.int _, .int _]) vm_X11_byteAt gw_1223 so_129 cq_10 dX11_faultOf_34 rfl rfl (Nat.le_of_ble_eq_true rfl) rfl (CI.mono H (fun r3 I4 X5 H => ?_))
    refine r_bipush (n := 39) (v := 32) dX11_faultOf_37 kb_32 rfl ?_
    refine r_icmp_ne (n := 42) (tgt := 55) dX11_faultOf_39 (by decide) rfl (fun c => ?_) (fun c => ?_)
    · have H := H.1 c
      refine r_aload_n (n := 56) 0 dX11_faultOf_55 rfl rfl ?_
      refine rs_getI (n := 59) cls_10 17 fi_10_17 so_129 gw_1043 dX11_faultOf_56 rfl ?_
      refine r_if_ne (n := 62) (tgt := 73) dX11_faultOf_59 (by decide) rfl (fun c => ?_) (fun c => ?_)
      · have H := H.1 c
        refine r_aload_n (n := 74) 0 dX11_faultOf_73 rfl rfl ?_
        refine r_iload_n (n := 75) 1 dX11_faultOf_74 rfl rfl ?_
        refine rs_cVi (n := 78) (rest := []) (As := [.int _]) vm_X11_readsHouse gw_1235 so_129 cq_10 dX11_faultOf_75 rfl rfl (Nat.le_of_ble_eq_true rfl) rfl (CI.mono H (fun r6 I7 X8 H => ?_))
        refine r_if_ne (n := 81) (tgt := 15) dX11_faultOf_78 (by decide) rfl (fun c => ?_) (fun c => ?_)
        · have H := H.1 c
          exact r_sub [0, 1] rfl H
        · have H := H.2 c
          refine r_aload_n (n := 82) 0 dX11_faultOf_81 rfl rfl ?_
          refine rs_getI (n := 85) cls_10 15 fi_10_15 so_129 gw_1041 dX11_faultOf_82 rfl ?_
          exact rs_iret dX11_faultOf_85 rfl H
      · have H := H.2 c
        refine r_aload_n (n := 63) 0 dX11_faultOf_62 rfl rfl ?_
        refine r_iload_n (n := 64) 1 dX11_faultOf_63 rfl rfl ?_
        refine rs_cVi (n := 67) (rest := []) (As := [.int _]) vm_X11_readsWinds gw_1227 so_129 cq_10 dX11_faultOf_64 rfl rfl (Nat.le_of_ble_eq_true rfl) rfl (CI.mono H (fun r9 I10 X11 H => ?_))
        refine r_if_eq (n := 70) (tgt := 81) dX11_faultOf_67 (by decide) rfl (fun c => ?_) (fun c => ?_)
        · have H := H.1 c
          refine r_aload_n (n := 82) 0 dX11_faultOf_81 rfl rfl ?_
          refine rs_getI (n := 85) cls_10 15 fi_10_15 so_129 gw_1041 dX11_faultOf_82 rfl ?_
          exact rs_iret dX11_faultOf_85 rfl H
        · have H := H.2 c
          refine r_goto (n := 15) dX11_faultOf_70 (by decide) ?_
          exact r_sub [0, 1] rfl H
    · have H := H.2 c
      refine r_aload_n (n := 43) 0 dX11_faultOf_42 rfl rfl ?_
      refine r_dup (n := 44) dX11_faultOf_43 rfl rfl ?_
      refine rs_getI (n := 47) cls_10 15 fi_10_15 so_129 gw_1041 dX11_faultOf_44 rfl ?_
      refine r_iconst (n := 48) (v := 1) dX11_faultOf_47 ki_1 rfl ?_
      refine r_iadd (n := 49) dX11_faultOf_48 rfl ?_
      have H := H _ rfl
      refine rs_putI (n := 52) cls_10 15 fp_10_15 so_129 gw_1041 dX11_faultOf_49 rfl ?_
      refine r_goto (n := 15) dX11_faultOf_52 (by decide) ?_
      exact r_sub [0, 1] rfl H
set_option maxRecDepth 20000 in
theorem en_X11_fault {g : OG} {d : Nat} {I : IT} {X : XT} {K : Int32 → IT → XT → Prop} {l1 : Int32} 
    (H : CI g d iX11_isText [.int l1] I X (fun r1 I2 X3 =>
        (¬ r1 = 0 →
          vp_in l1 4 ∧
          (0 ≤ (I2 134 l1.toNatClampNeg) →
            CI g d iX11_faultOf [rf g 129, .int l1] I2 X3 (fun r5 I6 X7 =>
              K r5 I6 X7)) ∧
          (¬ 0 ≤ (I2 134 l1.toNatClampNeg) →
            CI g d iX11_meets [rf g 129, .int 1] I2 X3 (fun r8 I9 X10 =>
              K r8 I9 X10))) ∧
        (r1 = 0 →
          K ((-1)) I2 X3))) : CI g (d + 1) iX11_fault [rf g 129, .int l1] I X K := by
  refine ocall_of (by decide) (Nat.le_of_ble_eq_true rfl) ?_
  show SR g (d + 1) iX11_fault 0 [(0, rf g 129), (1, .int l1)] I X (qI K)
  refine r_iload_n (n := 1) 1 dX11_fault_0 rfl rfl ?_
  refine rs_cSi (n := 4) (rest := []) (As := [.int _]) sm_X11_isText gw_1208 dX11_fault_1 rfl rfl (Nat.le_of_ble_eq_true rfl) rfl (CI.mono H (fun r1 I2 X3 H => ?_))
  refine r_if_ne (n := 7) (tgt := 9) dX11_fault_4 (by decide) rfl (fun c => ?_) (fun c => ?_)
  · have H := H.1 c
    refine r_aload_n (n := 10) 0 dX11_fault_9 rfl rfl ?_
    refine r_getR (n := 13) cls_10 8 fi_10_8 so_129 gw_1034 dX11_fault_10 rfl sr_129_8 (by decide) ?_
    refine r_iload_n (n := 14) 1 dX11_fault_13 rfl rfl ?_
    obtain ⟨hi4, H⟩ := H
    refine rs_iald (n := 15) sa_134 hi4 dX11_fault_14 rfl ?_
    refine r_if_ge (n := 18) (tgt := 26) dX11_fault_15 (by decide) rfl (fun c => ?_) (fun c => ?_)
    · have H := H.1 c
      refine r_aload_n (n := 27) 0 dX11_fault_26 rfl rfl ?_
      refine r_iload_n (n := 28) 1 dX11_fault_27 rfl rfl ?_
      refine rs_cVi (n := 31) (rest := []) (As := [.int _]) vm_X11_faultOf gw_1219 so_129 cq_10 dX11_fault_28 rfl rfl (Nat.le_of_ble_eq_true rfl) rfl (CI.mono H (fun r5 I6 X7 H => ?_))
      exact rs_iret dX11_fault_31 rfl H
    · have H := H.2 c
      refine r_aload_n (n := 19) 0 dX11_fault_18 rfl rfl ?_
      refine r_iconst (n := 20) (v := 1) dX11_fault_19 ki_1 rfl ?_
      refine rs_cVi (n := 23) (rest := []) (As := [.int _]) vm_X11_meets gw_1172 so_129 cq_10 dX11_fault_20 rfl rfl (Nat.le_of_ble_eq_true rfl) rfl (CI.mono H (fun r8 I9 X10 H => ?_))
      refine r_goto (n := 31) dX11_fault_23 (by decide) ?_
      exact rs_iret dX11_fault_31 rfl H
  · have H := H.2 c
    refine r_iconst (n := 8) (v := (-1)) dX11_fault_7 ki_m1 rfl ?_
    exact rs_iret dX11_fault_8 rfl H
set_option maxRecDepth 20000 in
theorem en_X11_village {g : OG} {d : Nat} {I : IT} {X : XT} {K : Int32 → IT → XT → Prop} {l1 : Int32} 
    (H : CI g d iX11_isText [.int l1] I X (fun r1 I2 X3 =>
        (¬ r1 = 0 →
          vp_in l1 4 ∧
          (0 ≤ (I2 134 l1.toNatClampNeg) →
            CI g d iX11_faultOf [rf g 129, .int l1] I2 X3 (fun r5 I6 X7 =>
              (r5 = ((-9)) →
                ∀ I8 : IT, I8 = set2 I6 129 10 (I6 129 16) →
                ∀ I9 : IT, I9 = set2 I8 129 11 (I8 129 17) →
                SR g (d + 1) iX11_village 55 [(0, rf g 129), (2, .int 0)] I9 X7 (qI K)) ∧
              (¬ r5 = ((-9)) →
                K ((-4)) I6 X7))) ∧
          (¬ 0 ≤ (I2 134 l1.toNatClampNeg) →
            CI g d iX11_meets [rf g 129, .int 1] I2 X3 (fun r10 I11 X12 =>
              K r10 I11 X12))) ∧
        (r1 = 0 →
          K ((-1)) I2 X3))) : CI g (d + 1) iX11_village [rf g 129, .int l1] I X K := by
  refine ocall_of (by decide) (Nat.le_of_ble_eq_true rfl) ?_
  show SR g (d + 1) iX11_village 0 [(0, rf g 129), (1, .int l1)] I X (qI K)
  refine r_iload_n (n := 1) 1 dX11_village_0 rfl rfl ?_
  refine rs_cSi (n := 4) (rest := []) (As := [.int _]) sm_X11_isText gw_1208 dX11_village_1 rfl rfl (Nat.le_of_ble_eq_true rfl) rfl (CI.mono H (fun r1 I2 X3 H => ?_))
  refine r_if_ne (n := 7) (tgt := 9) dX11_village_4 (by decide) rfl (fun c => ?_) (fun c => ?_)
  · have H := H.1 c
    refine r_aload_n (n := 10) 0 dX11_village_9 rfl rfl ?_
    refine r_getR (n := 13) cls_10 8 fi_10_8 so_129 gw_1034 dX11_village_10 rfl sr_129_8 (by decide) ?_
    refine r_iload_n (n := 14) 1 dX11_village_13 rfl rfl ?_
    obtain ⟨hi4, H⟩ := H
    refine rs_iald (n := 15) sa_134 hi4 dX11_village_14 rfl ?_
    refine r_if_ge (n := 18) (tgt := 24) dX11_village_15 (by decide) rfl (fun c => ?_) (fun c => ?_)
    · have H := H.1 c
      refine r_aload_n (n := 25) 0 dX11_village_24 rfl rfl ?_
      refine r_iload_n (n := 26) 1 dX11_village_25 rfl rfl ?_
      refine rs_cVi (n := 29) (rest := []) (As := [.int _]) vm_X11_faultOf gw_1219 so_129 cq_10 dX11_village_26 rfl rfl (Nat.le_of_ble_eq_true rfl) rfl (CI.mono H (fun r5 I6 X7 H => ?_))
      refine r_bipush (n := 31) (v := (-9)) dX11_village_29 kb_m9 rfl ?_
      refine r_icmp_eq (n := 34) (tgt := 37) dX11_village_31 (by decide) rfl (fun c => ?_) (fun c => ?_)
      · have H := H.1 c
        refine r_aload_n (n := 38) 0 dX11_village_37 rfl rfl ?_
        refine r_aload_n (n := 39) 0 dX11_village_38 rfl rfl ?_
        refine rs_getI (n := 42) cls_10 16 fi_10_16 so_129 gw_1042 dX11_village_39 rfl ?_
        have H := H _ rfl
        refine rs_putI (n := 45) cls_10 10 fp_10_10 so_129 gw_1036 dX11_village_42 rfl ?_
        refine r_aload_n (n := 46) 0 dX11_village_45 rfl rfl ?_
        refine r_aload_n (n := 47) 0 dX11_village_46 rfl rfl ?_
        refine rs_getI (n := 50) cls_10 17 fi_10_17 so_129 gw_1043 dX11_village_47 rfl ?_
        have H := H _ rfl
        refine rs_putI (n := 53) cls_10 11 fp_10_11 so_129 gw_1037 dX11_village_50 rfl ?_
        refine r_iconst (n := 54) (v := 0) dX11_village_53 ki_0 rfl ?_
        refine r_istore_n (n := 55) (lv' := [(2, .int _), (0, .ref _), (1, .int _)]) dX11_village_54 rfl (by decide) rfl rfl ?_
        exact r_sub [1, 0] rfl H
      · have H := H.2 c
        refine r_bipush (n := 36) (v := (-4)) dX11_village_34 kb_m4 rfl ?_
        exact rs_iret dX11_village_36 rfl H
    · have H := H.2 c
      refine r_aload_n (n := 19) 0 dX11_village_18 rfl rfl ?_
      refine r_iconst (n := 20) (v := 1) dX11_village_19 ki_1 rfl ?_
      refine rs_cVi (n := 23) (rest := []) (As := [.int _]) vm_X11_meets gw_1172 so_129 cq_10 dX11_village_20 rfl rfl (Nat.le_of_ble_eq_true rfl) rfl (CI.mono H (fun r10 I11 X12 H => ?_))
      exact rs_iret dX11_village_23 rfl H
  · have H := H.2 c
    refine r_iconst (n := 8) (v := (-1)) dX11_village_7 ki_m1 rfl ?_
    exact rs_iret dX11_village_8 rfl H
set_option maxRecDepth 20000 in
theorem rg_X11_village_55 {g : OG} {d : Nat} {I : IT} {X : XT} {K : Int32 → IT → XT → Prop} {l2 : Int32} 
    (H : ((I 129 11) ≤ l2 →
        SR g (d + 1) iX11_village 83 [(0, rf g 129), (2, .int 0)] I X (qI K)) ∧
      (¬ (I 129 11) ≤ l2 →
        vp_in l2 6 ∧
        vp_in l2 6 ∧
        ∀ I3 : IT, I3 = set2 I 136 l2.toNatClampNeg (I 139 l2.toNatClampNeg) →
        ∀ x4 : Int32, x4 = l2 + 1 →
        SR g (d + 1) iX11_village 55 [(0, rf g 129), (2, .int x4)] I3 X (qI K))) : SR g (d + 1) iX11_village 55 [(0, rf g 129), (2, .int l2)] I X (qI K) := by
  refine r_iload_n (n := 56) 1 dX11_village_55 rfl rfl ?_
  refine r_aload_n (n := 57) 0 dX11_village_56 rfl rfl ?_
  refine rs_getI (n := 60) cls_10 11 fi_10_11 so_129 gw_1037 dX11_village_57 rfl ?_
  refine r_icmp_ge (n := 63) (tgt := 81) dX11_village_60 (by decide) rfl (fun c => ?_) (fun c => ?_)
  · have H := H.1 c
    refine r_iconst (n := 82) (v := 0) dX11_village_81 ki_0 rfl ?_
    refine r_istore_n (n := 83) (lv' := [(2, .int _), (0, .ref _)]) dX11_village_82 rfl (by decide) rfl rfl ?_
    exact r_sub [1, 0] rfl H
  · have H := H.2 c
    refine r_aload_n (n := 64) 0 dX11_village_63 rfl rfl ?_
    refine r_getR (n := 67) cls_10 12 fi_10_12 so_129 gw_1038 dX11_village_64 rfl sr_129_12 (by decide) ?_
    refine r_iload_n (n := 68) 1 dX11_village_67 rfl rfl ?_
    refine r_aload_n (n := 69) 0 dX11_village_68 rfl rfl ?_
    refine r_getR (n := 72) cls_10 18 fi_10_18 so_129 gw_1044 dX11_village_69 rfl sr_129_18 (by decide) ?_
    refine r_iload_n (n := 73) 1 dX11_village_72 rfl rfl ?_
    obtain ⟨hi1, H⟩ := H
    refine rs_iald (n := 74) sa_139 hi1 dX11_village_73 rfl ?_
    obtain ⟨hi2, H⟩ := H
    have H := H _ rfl
    refine rs_iast (n := 75) sa_136 hi2 dX11_village_74 rfl ?_
    have H := H _ rfl
    refine r_iinc (n := 78) (lv' := [(2, .int _), (0, .ref _)]) 1 dX11_village_75 rfl rfl (by decide) rfl rfl ?_
    refine r_goto (n := 55) dX11_village_78 (by decide) ?_
    exact r_sub [1, 0] rfl H
set_option maxRecDepth 20000 in
theorem rg_X11_village_83 {g : OG} {d : Nat} {I : IT} {X : XT} {K : Int32 → IT → XT → Prop} {l2 : Int32} 
    (H : (18 ≤ l2 →
        SR g (d + 1) iX11_village 104 [(0, rf g 129), (2, .int 0)] I X (qI K)) ∧
      (¬ 18 ≤ l2 →
        vp_in l2 18 ∧
        ∀ I2 : IT, I2 = set2 I 141 l2.toNatClampNeg 0 →
        ∀ x3 : Int32, x3 = l2 + 1 →
        SR g (d + 1) iX11_village 83 [(0, rf g 129), (2, .int x3)] I2 X (qI K))) : SR g (d + 1) iX11_village 83 [(0, rf g 129), (2, .int l2)] I X (qI K) := by
  refine r_iload_n (n := 84) 1 dX11_village_83 rfl rfl ?_
  refine r_bipush (n := 86) (v := 18) dX11_village_84 kb_18 rfl ?_
  refine r_icmp_ge (n := 89) (tgt := 102) dX11_village_86 (by decide) rfl (fun c => ?_) (fun c => ?_)
  · have H := H.1 c
    refine r_iconst (n := 103) (v := 0) dX11_village_102 ki_0 rfl ?_
    refine r_istore_n (n := 104) (lv' := [(2, .int _), (0, .ref _)]) dX11_village_103 rfl (by decide) rfl rfl ?_
    exact r_sub [1, 0] rfl H
  · have H := H.2 c
    refine r_aload_n (n := 90) 0 dX11_village_89 rfl rfl ?_
    refine r_getR (n := 93) cls_10 20 fi_10_20 so_129 gw_1046 dX11_village_90 rfl sr_129_20 (by decide) ?_
    refine r_iload_n (n := 94) 1 dX11_village_93 rfl rfl ?_
    refine r_iconst (n := 95) (v := 0) dX11_village_94 ki_0 rfl ?_
    obtain ⟨hi1, H⟩ := H
    have H := H _ rfl
    refine rs_iast (n := 96) sa_141 hi1 dX11_village_95 rfl ?_
    have H := H _ rfl
    refine r_iinc (n := 99) (lv' := [(2, .int _), (0, .ref _)]) 1 dX11_village_96 rfl rfl (by decide) rfl rfl ?_
    refine r_goto (n := 83) dX11_village_99 (by decide) ?_
    exact r_sub [1, 0] rfl H
set_option maxRecDepth 20000 in
theorem rg_X11_village_104 {g : OG} {d : Nat} {I : IT} {X : XT} {K : Int32 → IT → XT → Prop} {l2 : Int32} 
    (H : ((I 129 10) ≤ l2 →
        SR g (d + 1) iX11_village 184 [(0, rf g 129), (2, .int 0)] I X (qI K)) ∧
      (¬ (I 129 10) ≤ l2 →
        vp_in (4 * l2) 20 ∧
        vp_in l2 5 ∧
        ∀ I3 : IT, I3 = set2 I 137 l2.toNatClampNeg (I 140 (4 * l2).toNatClampNeg) →
        vp_in ((4 * l2) + 1) 20 ∧
        vp_in l2 18 ∧
        ∀ I6 : IT, I6 = set2 I3 141 l2.toNatClampNeg (I3 140 ((4 * l2) + 1).toNatClampNeg) →
        vp_in ((4 * l2) + 2) 20 ∧
        vp_in (5 + l2) 18 ∧
        ∀ I9 : IT, I9 = set2 I6 141 (5 + l2).toNatClampNeg (I6 140 ((4 * l2) + 2).toNatClampNeg) →
        vp_in ((4 * l2) + 3) 20 ∧
        vp_in l2 5 ∧
        ∀ I12 : IT, I12 = set2 I9 138 l2.toNatClampNeg (I9 140 ((4 * l2) + 3).toNatClampNeg) →
        ∀ x13 : Int32, x13 = l2 + 1 →
        SR g (d + 1) iX11_village 104 [(0, rf g 129), (2, .int x13)] I12 X (qI K))) : SR g (d + 1) iX11_village 104 [(0, rf g 129), (2, .int l2)] I X (qI K) := by
  refine r_iload_n (n := 105) 1 dX11_village_104 rfl rfl ?_
  refine r_aload_n (n := 106) 0 dX11_village_105 rfl rfl ?_
  refine rs_getI (n := 109) cls_10 10 fi_10_10 so_129 gw_1036 dX11_village_106 rfl ?_
  refine r_icmp_ge (n := 112) (tgt := 182) dX11_village_109 (by decide) rfl (fun c => ?_) (fun c => ?_)
  · have H := H.1 c
    refine r_iconst (n := 183) (v := 0) dX11_village_182 ki_0 rfl ?_
    refine r_istore_n (n := 184) (lv' := [(2, .int _), (0, .ref _)]) dX11_village_183 rfl (by decide) rfl rfl ?_
    exact r_sub [1, 0] rfl H
  · have H := H.2 c
    refine r_aload_n (n := 113) 0 dX11_village_112 rfl rfl ?_
    refine r_getR (n := 116) cls_10 13 fi_10_13 so_129 gw_1039 dX11_village_113 rfl sr_129_13 (by decide) ?_
    refine r_iload_n (n := 117) 1 dX11_village_116 rfl rfl ?_
    refine r_aload_n (n := 118) 0 dX11_village_117 rfl rfl ?_
    refine r_getR (n := 121) cls_10 19 fi_10_19 so_129 gw_1045 dX11_village_118 rfl sr_129_19 (by decide) ?_
    refine r_iconst (n := 122) (v := 4) dX11_village_121 ki_4 rfl ?_
    refine r_iload_n (n := 123) 1 dX11_village_122 rfl rfl ?_
    refine r_imul (n := 124) dX11_village_123 rfl ?_
    obtain ⟨hi1, H⟩ := H
    refine rs_iald (n := 125) sa_140 hi1 dX11_village_124 rfl ?_
    obtain ⟨hi2, H⟩ := H
    have H := H _ rfl
    refine rs_iast (n := 126) sa_137 hi2 dX11_village_125 rfl ?_
    refine r_aload_n (n := 127) 0 dX11_village_126 rfl rfl ?_
    refine r_getR (n := 130) cls_10 20 fi_10_20 so_129 gw_1046 dX11_village_127 rfl sr_129_20 (by decide) ?_
    refine r_iload_n (n := 131) 1 dX11_village_130 rfl rfl ?_
    refine r_aload_n (n := 132) 0 dX11_village_131 rfl rfl ?_
    refine r_getR (n := 135) cls_10 19 fi_10_19 so_129 gw_1045 dX11_village_132 rfl sr_129_19 (by decide) ?_
    refine r_iconst (n := 136) (v := 4) dX11_village_135 ki_4 rfl ?_
    refine r_iload_n (n := 137) 1 dX11_village_136 rfl rfl ?_
    refine r_imul (n := 138) dX11_village_137 rfl ?_
    refine r_iconst (n := 139) (v := 1) dX11_village_138 ki_1 rfl ?_
    refine r_iadd (n := 140) dX11_village_139 rfl ?_
    obtain ⟨hi4, H⟩ := H
    refine rs_iald (n := 141) sa_140 hi4 dX11_village_140 rfl ?_
    obtain ⟨hi5, H⟩ := H
    have H := H _ rfl
    refine rs_iast (n := 142) sa_141 hi5 dX11_village_141 rfl ?_
    refine r_aload_n (n := 143) 0 dX11_village_142 rfl rfl ?_
    refine r_getR (n := 146) cls_10 20 fi_10_20 so_129 gw_1046 dX11_village_143 rfl sr_129_20 (by decide) ?_
    refine r_iconst (n := 147) (v := 5) dX11_village_146 ki_5 rfl ?_
    refine r_iload_n (n := 148) 1 dX11_village_147 rfl rfl ?_
    refine r_iadd (n := 149) dX11_village_148 rfl ?_
    refine r_aload_n (n := 150) 0 dX11_village_149 rfl rfl ?_
    refine r_getR (n := 153) cls_10 19 fi_10_19 so_129 gw_1045 dX11_village_150 rfl sr_129_19 (by decide) ?_
    refine r_iconst (n := 154) (v := 4) dX11_village_153 ki_4 rfl ?_
    refine r_iload_n (n := 155) 1 dX11_village_154 rfl rfl ?_
    refine r_imul (n := 156) dX11_village_155 rfl ?_
    refine r_iconst (n := 157) (v := 2) dX11_village_156 ki_2 rfl ?_
    refine r_iadd (n := 158) dX11_village_157 rfl ?_
    obtain ⟨hi7, H⟩ := H
    refine rs_iald (n := 159) sa_140 hi7 dX11_village_158 rfl ?_
    obtain ⟨hi8, H⟩ := H
    have H := H _ rfl
    refine rs_iast (n := 160) sa_141 hi8 dX11_village_159 rfl ?_
    refine r_aload_n (n := 161) 0 dX11_village_160 rfl rfl ?_
    refine r_getR (n := 164) cls_10 14 fi_10_14 so_129 gw_1040 dX11_village_161 rfl sr_129_14 (by decide) ?_
    refine r_iload_n (n := 165) 1 dX11_village_164 rfl rfl ?_
    refine r_aload_n (n := 166) 0 dX11_village_165 rfl rfl ?_
    refine r_getR (n := 169) cls_10 19 fi_10_19 so_129 gw_1045 dX11_village_166 rfl sr_129_19 (by decide) ?_
    refine r_iconst (n := 170) (v := 4) dX11_village_169 ki_4 rfl ?_
    refine r_iload_n (n := 171) 1 dX11_village_170 rfl rfl ?_
    refine r_imul (n := 172) dX11_village_171 rfl ?_
    refine r_iconst (n := 173) (v := 3) dX11_village_172 ki_3 rfl ?_
    refine r_iadd (n := 174) dX11_village_173 rfl ?_
    obtain ⟨hi10, H⟩ := H
    refine rs_iald (n := 175) sa_140 hi10 dX11_village_174 rfl ?_
    obtain ⟨hi11, H⟩ := H
    have H := H _ rfl
    refine rs_iast (n := 176) sa_138 hi11 dX11_village_175 rfl ?_
    have H := H _ rfl
    refine r_iinc (n := 179) (lv' := [(2, .int _), (0, .ref _)]) 1 dX11_village_176 rfl rfl (by decide) rfl rfl ?_
    refine r_goto (n := 104) dX11_village_179 (by decide) ?_
    exact r_sub [1, 0] rfl H
set_option maxRecDepth 20000 in
theorem rg_X11_village_184 {g : OG} {d : Nat} {I : IT} {X : XT} {K : Int32 → IT → XT → Prop} {l2 : Int32} 
    (H : (18 ≤ l2 →
        ∀ I1 : IT, I1 = set2 I 129 22 0 →
        SR g (d + 1) iX11_village 215 [(0, rf g 129), (2, .int 0)] I1 X (qI K)) ∧
      (¬ 18 ≤ l2 →
        vp_in l2 18 ∧
        vp_in l2 216 ∧
        ∀ I4 : IT, I4 = set2 I 142 l2.toNatClampNeg (I 141 l2.toNatClampNeg) →
        ∀ x5 : Int32, x5 = l2 + 1 →
        SR g (d + 1) iX11_village 184 [(0, rf g 129), (2, .int x5)] I4 X (qI K))) : SR g (d + 1) iX11_village 184 [(0, rf g 129), (2, .int l2)] I X (qI K) := by
  refine r_iload_n (n := 185) 1 dX11_village_184 rfl rfl ?_
  refine r_bipush (n := 187) (v := 18) dX11_village_185 kb_18 rfl ?_
  refine r_icmp_ge (n := 190) (tgt := 208) dX11_village_187 (by decide) rfl (fun c => ?_) (fun c => ?_)
  · have H := H.1 c
    refine r_aload_n (n := 209) 0 dX11_village_208 rfl rfl ?_
    refine r_iconst (n := 210) (v := 0) dX11_village_209 ki_0 rfl ?_
    have H := H _ rfl
    refine rs_putI (n := 213) cls_10 22 fp_10_22 so_129 gw_1048 dX11_village_210 rfl ?_
    refine r_iconst (n := 214) (v := 0) dX11_village_213 ki_0 rfl ?_
    refine r_istore_n (n := 215) (lv' := [(2, .int _), (0, .ref _)]) dX11_village_214 rfl (by decide) rfl rfl ?_
    exact r_sub [1, 0] rfl H
  · have H := H.2 c
    refine r_aload_n (n := 191) 0 dX11_village_190 rfl rfl ?_
    refine r_getR (n := 194) cls_10 21 fi_10_21 so_129 gw_1047 dX11_village_191 rfl sr_129_21 (by decide) ?_
    refine r_iload_n (n := 195) 1 dX11_village_194 rfl rfl ?_
    refine r_aload_n (n := 196) 0 dX11_village_195 rfl rfl ?_
    refine r_getR (n := 199) cls_10 20 fi_10_20 so_129 gw_1046 dX11_village_196 rfl sr_129_20 (by decide) ?_
    refine r_iload_n (n := 200) 1 dX11_village_199 rfl rfl ?_
    obtain ⟨hi2, H⟩ := H
    refine rs_iald (n := 201) sa_141 hi2 dX11_village_200 rfl ?_
    obtain ⟨hi3, H⟩ := H
    have H := H _ rfl
    refine rs_iast (n := 202) sa_142 hi3 dX11_village_201 rfl ?_
    have H := H _ rfl
    refine r_iinc (n := 205) (lv' := [(2, .int _), (0, .ref _)]) 1 dX11_village_202 rfl rfl (by decide) rfl rfl ?_
    refine r_goto (n := 184) dX11_village_205 (by decide) ?_
    exact r_sub [1, 0] rfl H
set_option maxRecDepth 20000 in
theorem rg_X11_village_215 {g : OG} {d : Nat} {I : IT} {X : XT} {K : Int32 → IT → XT → Prop} {l2 : Int32} 
    (H : (3 ≤ l2 →
        K (I 129 10) I X) ∧
      (¬ 3 ≤ l2 →
        vp_in l2 3 ∧
        ∀ I2 : IT, I2 = set2 I 144 l2.toNatClampNeg 0 →
        ∀ x3 : Int32, x3 = l2 + 1 →
        SR g (d + 1) iX11_village 215 [(0, rf g 129), (2, .int x3)] I2 X (qI K))) : SR g (d + 1) iX11_village 215 [(0, rf g 129), (2, .int l2)] I X (qI K) := by
  refine r_iload_n (n := 216) 1 dX11_village_215 rfl rfl ?_
  refine r_iconst (n := 217) (v := 3) dX11_village_216 ki_3 rfl ?_
  refine r_icmp_ge (n := 220) (tgt := 233) dX11_village_217 (by decide) rfl (fun c => ?_) (fun c => ?_)
  · have H := H.1 c
    refine r_aload_n (n := 234) 0 dX11_village_233 rfl rfl ?_
    refine rs_getI (n := 237) cls_10 10 fi_10_10 so_129 gw_1036 dX11_village_234 rfl ?_
    exact rs_iret dX11_village_237 rfl H
  · have H := H.2 c
    refine r_aload_n (n := 221) 0 dX11_village_220 rfl rfl ?_
    refine r_getR (n := 224) cls_10 24 fi_10_24 so_129 gw_1050 dX11_village_221 rfl sr_129_24 (by decide) ?_
    refine r_iload_n (n := 225) 1 dX11_village_224 rfl rfl ?_
    refine r_iconst (n := 226) (v := 0) dX11_village_225 ki_0 rfl ?_
    obtain ⟨hi1, H⟩ := H
    have H := H _ rfl
    refine rs_zast (n := 227) (by decide) sa_144 hi1 dX11_village_226 rfl ?_
    have H := H _ rfl
    refine r_iinc (n := 230) (lv' := [(2, .int _), (0, .ref _)]) 1 dX11_village_227 rfl rfl (by decide) rfl rfl ?_
    refine r_goto (n := 215) dX11_village_230 (by decide) ?_
    exact r_sub [1, 0] rfl H
set_option maxRecDepth 20000 in
theorem en_X11_isHouse {g : OG} {d : Nat} {I : IT} {X : XT} {K : Int32 → IT → XT → Prop} {l1 : Int32} 
    (H : CI g d iX11_in [.int l1, .int 0, .int ((I 129 10) - 1)] I X (fun r1 I2 X3 =>
        (r1 = 0 ∨ r1 = 1) ∧ K r1 I2 X3)) : CI g (d + 1) iX11_isHouse [rf g 129, .int l1] I X K := by
  refine ocall_of (by decide) (Nat.le_of_ble_eq_true rfl) ?_
  show SR g (d + 1) iX11_isHouse 0 [(0, rf g 129), (1, .int l1)] I X (qI K)
  refine r_iload_n (n := 1) 1 dX11_isHouse_0 rfl rfl ?_
  refine r_iconst (n := 2) (v := 0) dX11_isHouse_1 ki_0 rfl ?_
  refine r_aload_n (n := 3) 0 dX11_isHouse_2 rfl rfl ?_
  refine rs_getI (n := 6) cls_10 10 fi_10_10 so_129 gw_1036 dX11_isHouse_3 rfl ?_
  refine r_iconst (n := 7) (v := 1) dX11_isHouse_6 ki_1 rfl ?_
  refine r_isub (n := 8) dX11_isHouse_7 rfl ?_
  refine rs_cSi (n := 11) (rest := []) (As := [.int _, .int _, .int _]) sm_X11_in gw_1150 dX11_isHouse_8 rfl rfl (Nat.le_of_ble_eq_true rfl) rfl (CI.mono H (fun r1 I2 X3 H => ?_))
  exact rs_zret dX11_isHouse_11 rfl H.1 H.2
set_option maxRecDepth 20000 in
theorem en_X11_copyTo {g : OG} {d : Nat} {I : IT} {X : XT} {K : IT → XT → Prop} {l1 : Int32} {l2 : Int32} 
    (H : SR g (d + 1) iX11_copyTo 2 [(0, rf g 129), (1, .int l1), (2, .int l2), (3, .int 0)] I X (qV K)) : CV g (d + 1) iX11_copyTo [rf g 129, .int l1, .int l2] I X K := by
  refine ocall_of (by decide) (Nat.le_of_ble_eq_true rfl) ?_
  show SR g (d + 1) iX11_copyTo 0 [(0, rf g 129), (1, .int l1), (2, .int l2)] I X (qV K)
  refine r_iconst (n := 1) (v := 0) dX11_copyTo_0 ki_0 rfl ?_
  refine r_istore_n (n := 2) (lv' := [(3, .int _), (0, .ref _), (1, .int _), (2, .int _)]) dX11_copyTo_1 rfl (by decide) rfl rfl ?_
  exact r_sub [1, 2, 3, 0] rfl H
set_option maxRecDepth 20000 in
theorem rg_X11_copyTo_2 {g : OG} {d : Nat} {I : IT} {X : XT} {K : IT → XT → Prop} {l1 : Int32} {l2 : Int32} {l3 : Int32} 
    (H : (18 ≤ l3 →
        K I X) ∧
      (¬ 18 ≤ l3 →
        vp_in ((18 * l1) + l3) 216 ∧
        vp_in ((18 * l2) + l3) 216 ∧
        ∀ I3 : IT, I3 = set2 I 142 ((18 * l2) + l3).toNatClampNeg (I 142 ((18 * l1) + l3).toNatClampNeg) →
        ∀ x4 : Int32, x4 = l3 + 1 →
        SR g (d + 1) iX11_copyTo 2 [(0, rf g 129), (1, .int l1), (2, .int l2), (3, .int x4)] I3 X (qV K))) : SR g (d + 1) iX11_copyTo 2 [(0, rf g 129), (1, .int l1), (2, .int l2), (3, .int l3)] I X (qV K) := by
  refine r_iload_n (n := 3) 3 dX11_copyTo_2 rfl rfl ?_
  refine r_bipush (n := 5) (v := 18) dX11_copyTo_3 kb_18 rfl ?_
  refine r_icmp_ge (n := 8) (tgt := 36) dX11_copyTo_5 (by decide) rfl (fun c => ?_) (fun c => ?_)
  · have H := H.1 c
    exact rs_vret dX11_copyTo_36 rfl H
  · have H := H.2 c
    refine r_aload_n (n := 9) 0 dX11_copyTo_8 rfl rfl ?_
    refine r_getR (n := 12) cls_10 21 fi_10_21 so_129 gw_1047 dX11_copyTo_9 rfl sr_129_21 (by decide) ?_
    refine r_bipush (n := 14) (v := 18) dX11_copyTo_12 kb_18 rfl ?_
    refine r_iload_n (n := 15) 2 dX11_copyTo_14 rfl rfl ?_
    refine r_imul (n := 16) dX11_copyTo_15 rfl ?_
    refine r_iload_n (n := 17) 3 dX11_copyTo_16 rfl rfl ?_
    refine r_iadd (n := 18) dX11_copyTo_17 rfl ?_
    refine r_aload_n (n := 19) 0 dX11_copyTo_18 rfl rfl ?_
    refine r_getR (n := 22) cls_10 21 fi_10_21 so_129 gw_1047 dX11_copyTo_19 rfl sr_129_21 (by decide) ?_
    refine r_bipush (n := 24) (v := 18) dX11_copyTo_22 kb_18 rfl ?_
    refine r_iload_n (n := 25) 1 dX11_copyTo_24 rfl rfl ?_
    refine r_imul (n := 26) dX11_copyTo_25 rfl ?_
    refine r_iload_n (n := 27) 3 dX11_copyTo_26 rfl rfl ?_
    refine r_iadd (n := 28) dX11_copyTo_27 rfl ?_
    obtain ⟨hi1, H⟩ := H
    refine rs_iald (n := 29) sa_142 hi1 dX11_copyTo_28 rfl ?_
    obtain ⟨hi2, H⟩ := H
    have H := H _ rfl
    refine rs_iast (n := 30) sa_142 hi2 dX11_copyTo_29 rfl ?_
    have H := H _ rfl
    refine r_iinc (n := 33) (lv' := [(3, .int _), (0, .ref _), (1, .int _), (2, .int _)]) 3 dX11_copyTo_30 rfl rfl (by decide) rfl rfl ?_
    refine r_goto (n := 2) dX11_copyTo_33 (by decide) ?_
    exact r_sub [1, 2, 3, 0] rfl H
set_option maxRecDepth 20000 in
theorem en_X11_isBurning {g : OG} {d : Nat} {I : IT} {X : XT} {K : Int32 → IT → XT → Prop} {l1 : Int32} {l2 : Int32} 
    (H : vp_in (((18 * l1) + 10) + l2) 216 ∧
      (¬ (I 142 (((18 * l1) + 10) + l2).toNatClampNeg) = 1 →
        K 0 I X) ∧
      ((I 142 (((18 * l1) + 10) + l2).toNatClampNeg) = 1 →
        K 1 I X)) : CI g (d + 1) iX11_isBurning [rf g 129, .int l1, .int l2] I X K := by
  refine ocall_of (by decide) (Nat.le_of_ble_eq_true rfl) ?_
  show SR g (d + 1) iX11_isBurning 0 [(0, rf g 129), (1, .int l1), (2, .int l2)] I X (qI K)
  refine r_aload_n (n := 1) 0 dX11_isBurning_0 rfl rfl ?_
  refine r_getR (n := 4) cls_10 21 fi_10_21 so_129 gw_1047 dX11_isBurning_1 rfl sr_129_21 (by decide) ?_
  refine r_bipush (n := 6) (v := 18) dX11_isBurning_4 kb_18 rfl ?_
  refine r_iload_n (n := 7) 1 dX11_isBurning_6 rfl rfl ?_
  refine r_imul (n := 8) dX11_isBurning_7 rfl ?_
  refine r_bipush (n := 10) (v := 10) dX11_isBurning_8 kb_10 rfl ?_
  refine r_iadd (n := 11) dX11_isBurning_10 rfl ?_
  refine r_iload_n (n := 12) 2 dX11_isBurning_11 rfl rfl ?_
  refine r_iadd (n := 13) dX11_isBurning_12 rfl ?_
  obtain ⟨hi1, H⟩ := H
  refine rs_iald (n := 14) sa_142 hi1 dX11_isBurning_13 rfl ?_
  refine r_iconst (n := 15) (v := 1) dX11_isBurning_14 ki_1 rfl ?_
  refine r_icmp_ne (n := 18) (tgt := 22) dX11_isBurning_15 (by decide) rfl (fun c => ?_) (fun c => ?_)
  · have H := H.1 c
    refine r_iconst (n := 23) (v := 0) dX11_isBurning_22 ki_0 rfl ?_
    exact rs_zret dX11_isBurning_23 rfl (by decide) H
  · have H := H.2 c
    refine r_iconst (n := 19) (v := 1) dX11_isBurning_18 ki_1 rfl ?_
    refine r_goto (n := 23) dX11_isBurning_19 (by decide) ?_
    exact rs_zret dX11_isBurning_23 rfl (by decide) H
set_option maxRecDepth 20000 in
theorem en_X11_isCatching {g : OG} {d : Nat} {I : IT} {X : XT} {K : Int32 → IT → XT → Prop} {l1 : Int32} {l2 : Int32} 
    (H : vp_in (((18 * l1) + 5) + l2) 216 ∧
      ∀ x2 : Int32, x2 = I 142 (((18 * l1) + 5) + l2).toNatClampNeg →
      vp_in l2 5 ∧
      (¬ (I 137 l2.toNatClampNeg) = 5 →
        vp_in l2 5 ∧
        (¬ (I 137 l2.toNatClampNeg) = 2 →
          vp_in ((18 * l1) + l2) 216 ∧
          ((I 142 ((18 * l1) + l2).toNatClampNeg) ≤ 0 →
            K 0 I X) ∧
          (¬ (I 142 ((18 * l1) + l2).toNatClampNeg) ≤ 0 →
            (0 < x2 →
              K 0 I X) ∧
            (¬ 0 < x2 →
              K 1 I X))) ∧
        ((I 137 l2.toNatClampNeg) = 2 →
          vp_in ((18 * l1) + l2) 216 ∧
          ((I 142 ((18 * l1) + l2).toNatClampNeg) ≤ 0 →
            K 0 I X) ∧
          (¬ (I 142 ((18 * l1) + l2).toNatClampNeg) ≤ 0 →
            (1 < x2 →
              K 0 I X) ∧
            (¬ 1 < x2 →
              K 1 I X)))) ∧
      ((I 137 l2.toNatClampNeg) = 5 →
        vp_in ((18 * l1) + l2) 216 ∧
        ((I 142 ((18 * l1) + l2).toNatClampNeg) ≤ 0 →
          K 0 I X) ∧
        (¬ (I 142 ((18 * l1) + l2).toNatClampNeg) ≤ 0 →
          (3 < x2 →
            K 0 I X) ∧
          (¬ 3 < x2 →
            K 1 I X)))) : CI g (d + 1) iX11_isCatching [rf g 129, .int l1, .int l2] I X K := by
  refine ocall_of (by decide) (Nat.le_of_ble_eq_true rfl) ?_
  show SR g (d + 1) iX11_isCatching 0 [(0, rf g 129), (1, .int l1), (2, .int l2)] I X (qI K)
  refine r_aload_n (n := 1) 0 dX11_isCatching_0 rfl rfl ?_
  refine r_getR (n := 4) cls_10 21 fi_10_21 so_129 gw_1047 dX11_isCatching_1 rfl sr_129_21 (by decide) ?_
  refine r_bipush (n := 6) (v := 18) dX11_isCatching_4 kb_18 rfl ?_
  refine r_iload_n (n := 7) 1 dX11_isCatching_6 rfl rfl ?_
  refine r_imul (n := 8) dX11_isCatching_7 rfl ?_
  refine r_iconst (n := 9) (v := 5) dX11_isCatching_8 ki_5 rfl ?_
  refine r_iadd (n := 10) dX11_isCatching_9 rfl ?_
  refine r_iload_n (n := 11) 2 dX11_isCatching_10 rfl rfl ?_
  refine r_iadd (n := 12) dX11_isCatching_11 rfl ?_
  obtain ⟨hi1, H⟩ := H
  refine rs_iald (n := 13) sa_142 hi1 dX11_isCatching_12 rfl ?_
  have H := H _ rfl
  refine r_istore_n (n := 14) (lv' := [(3, .int _), (0, .ref _), (1, .int _), (2, .int _)]) dX11_isCatching_13 rfl (by decide) rfl rfl ?_
  refine r_aload_n (n := 15) 1 dX11_isCatching_14 rfl rfl ?_
  refine r_getR (n := 18) cls_10 13 fi_10_13 so_129 gw_1039 dX11_isCatching_15 rfl sr_129_13 (by decide) ?_
  refine r_iload_n (n := 19) 3 dX11_isCatching_18 rfl rfl ?_
  obtain ⟨hi3, H⟩ := H
  refine rs_iald (n := 20) sa_137 hi3 dX11_isCatching_19 rfl ?_
  refine r_iconst (n := 21) (v := 5) dX11_isCatching_20 ki_5 rfl ?_
  refine r_icmp_ne (n := 24) (tgt := 28) dX11_isCatching_21 (by decide) rfl (fun c => ?_) (fun c => ?_)
  · have H := H.1 c
    refine r_aload_n (n := 29) 1 dX11_isCatching_28 rfl rfl ?_
    refine r_getR (n := 32) cls_10 13 fi_10_13 so_129 gw_1039 dX11_isCatching_29 rfl sr_129_13 (by decide) ?_
    refine r_iload_n (n := 33) 3 dX11_isCatching_32 rfl rfl ?_
    obtain ⟨hi4, H⟩ := H
    refine rs_iald (n := 34) sa_137 hi4 dX11_isCatching_33 rfl ?_
    refine r_iconst (n := 35) (v := 2) dX11_isCatching_34 ki_2 rfl ?_
    refine r_icmp_ne (n := 38) (tgt := 42) dX11_isCatching_35 (by decide) rfl (fun c => ?_) (fun c => ?_)
    · have H := H.1 c
      refine r_iconst (n := 43) (v := 0) dX11_isCatching_42 ki_0 rfl ?_
      refine r_istore (n := 45) (lv' := [(4, .int _), (3, .int _), (0, .ref _), (1, .int _), (2, .int _)]) dX11_isCatching_43 (by decide) rfl rfl ?_
      refine r_aload_n (n := 46) 2 dX11_isCatching_45 rfl rfl ?_
      refine r_getR (n := 49) cls_10 21 fi_10_21 so_129 gw_1047 dX11_isCatching_46 rfl sr_129_21 (by decide) ?_
      refine r_bipush (n := 51) (v := 18) dX11_isCatching_49 kb_18 rfl ?_
      refine r_iload_n (n := 52) 3 dX11_isCatching_51 rfl rfl ?_
      refine r_imul (n := 53) dX11_isCatching_52 rfl ?_
      refine r_iload_n (n := 54) 4 dX11_isCatching_53 rfl rfl ?_
      refine r_iadd (n := 55) dX11_isCatching_54 rfl ?_
      obtain ⟨hi5, H⟩ := H
      refine rs_iald (n := 56) sa_142 hi5 dX11_isCatching_55 rfl ?_
      refine r_if_le (n := 59) (tgt := 69) dX11_isCatching_56 (by decide) rfl (fun c => ?_) (fun c => ?_)
      · have H := H.1 c
        refine r_iconst (n := 70) (v := 0) dX11_isCatching_69 ki_0 rfl ?_
        exact rs_zret dX11_isCatching_70 rfl (by decide) H
      · have H := H.2 c
        refine r_iload_n (n := 60) 1 dX11_isCatching_59 rfl rfl ?_
        refine r_iload (n := 62) 0 dX11_isCatching_60 rfl rfl ?_
        refine r_icmp_gt (n := 65) (tgt := 69) dX11_isCatching_62 (by decide) rfl (fun c => ?_) (fun c => ?_)
        · have H := H.1 c
          refine r_iconst (n := 70) (v := 0) dX11_isCatching_69 ki_0 rfl ?_
          exact rs_zret dX11_isCatching_70 rfl (by decide) H
        · have H := H.2 c
          refine r_iconst (n := 66) (v := 1) dX11_isCatching_65 ki_1 rfl ?_
          refine r_goto (n := 70) dX11_isCatching_66 (by decide) ?_
          exact rs_zret dX11_isCatching_70 rfl (by decide) H
    · have H := H.2 c
      refine r_iconst (n := 39) (v := 1) dX11_isCatching_38 ki_1 rfl ?_
      refine r_goto (n := 43) dX11_isCatching_39 (by decide) ?_
      refine r_istore (n := 45) (lv' := [(4, .int _), (3, .int _), (0, .ref _), (1, .int _), (2, .int _)]) dX11_isCatching_43 (by decide) rfl rfl ?_
      refine r_aload_n (n := 46) 2 dX11_isCatching_45 rfl rfl ?_
      refine r_getR (n := 49) cls_10 21 fi_10_21 so_129 gw_1047 dX11_isCatching_46 rfl sr_129_21 (by decide) ?_
      refine r_bipush (n := 51) (v := 18) dX11_isCatching_49 kb_18 rfl ?_
      refine r_iload_n (n := 52) 3 dX11_isCatching_51 rfl rfl ?_
      refine r_imul (n := 53) dX11_isCatching_52 rfl ?_
      refine r_iload_n (n := 54) 4 dX11_isCatching_53 rfl rfl ?_
      refine r_iadd (n := 55) dX11_isCatching_54 rfl ?_
      obtain ⟨hi6, H⟩ := H
      refine rs_iald (n := 56) sa_142 hi6 dX11_isCatching_55 rfl ?_
      refine r_if_le (n := 59) (tgt := 69) dX11_isCatching_56 (by decide) rfl (fun c => ?_) (fun c => ?_)
      · have H := H.1 c
        refine r_iconst (n := 70) (v := 0) dX11_isCatching_69 ki_0 rfl ?_
        exact rs_zret dX11_isCatching_70 rfl (by decide) H
      · have H := H.2 c
        refine r_iload_n (n := 60) 1 dX11_isCatching_59 rfl rfl ?_
        refine r_iload (n := 62) 0 dX11_isCatching_60 rfl rfl ?_
        refine r_icmp_gt (n := 65) (tgt := 69) dX11_isCatching_62 (by decide) rfl (fun c => ?_) (fun c => ?_)
        · have H := H.1 c
          refine r_iconst (n := 70) (v := 0) dX11_isCatching_69 ki_0 rfl ?_
          exact rs_zret dX11_isCatching_70 rfl (by decide) H
        · have H := H.2 c
          refine r_iconst (n := 66) (v := 1) dX11_isCatching_65 ki_1 rfl ?_
          refine r_goto (n := 70) dX11_isCatching_66 (by decide) ?_
          exact rs_zret dX11_isCatching_70 rfl (by decide) H
  · have H := H.2 c
    refine r_iconst (n := 25) (v := 3) dX11_isCatching_24 ki_3 rfl ?_
    refine r_goto (n := 43) dX11_isCatching_25 (by decide) ?_
    refine r_istore (n := 45) (lv' := [(4, .int _), (3, .int _), (0, .ref _), (1, .int _), (2, .int _)]) dX11_isCatching_43 (by decide) rfl rfl ?_
    refine r_aload_n (n := 46) 2 dX11_isCatching_45 rfl rfl ?_
    refine r_getR (n := 49) cls_10 21 fi_10_21 so_129 gw_1047 dX11_isCatching_46 rfl sr_129_21 (by decide) ?_
    refine r_bipush (n := 51) (v := 18) dX11_isCatching_49 kb_18 rfl ?_
    refine r_iload_n (n := 52) 3 dX11_isCatching_51 rfl rfl ?_
    refine r_imul (n := 53) dX11_isCatching_52 rfl ?_
    refine r_iload_n (n := 54) 4 dX11_isCatching_53 rfl rfl ?_
    refine r_iadd (n := 55) dX11_isCatching_54 rfl ?_
    obtain ⟨hi7, H⟩ := H
    refine rs_iald (n := 56) sa_142 hi7 dX11_isCatching_55 rfl ?_
    refine r_if_le (n := 59) (tgt := 69) dX11_isCatching_56 (by decide) rfl (fun c => ?_) (fun c => ?_)
    · have H := H.1 c
      refine r_iconst (n := 70) (v := 0) dX11_isCatching_69 ki_0 rfl ?_
      exact rs_zret dX11_isCatching_70 rfl (by decide) H
    · have H := H.2 c
      refine r_iload_n (n := 60) 1 dX11_isCatching_59 rfl rfl ?_
      refine r_iload (n := 62) 0 dX11_isCatching_60 rfl rfl ?_
      refine r_icmp_gt (n := 65) (tgt := 69) dX11_isCatching_62 (by decide) rfl (fun c => ?_) (fun c => ?_)
      · have H := H.1 c
        refine r_iconst (n := 70) (v := 0) dX11_isCatching_69 ki_0 rfl ?_
        exact rs_zret dX11_isCatching_70 rfl (by decide) H
      · have H := H.2 c
        refine r_iconst (n := 66) (v := 1) dX11_isCatching_65 ki_1 rfl ?_
        refine r_goto (n := 70) dX11_isCatching_66 (by decide) ?_
        exact rs_zret dX11_isCatching_70 rfl (by decide) H
set_option maxRecDepth 20000 in
theorem en_X11_hourOf {g : OG} {d : Nat} {I : IT} {X : XT} {K : Int32 → IT → XT → Prop} {l1 : Int32} 
    (H : vp_in ((18 * l1) + 15) 216 ∧
      K (I 142 ((18 * l1) + 15).toNatClampNeg) I X) : CI g (d + 1) iX11_hourOf [rf g 129, .int l1] I X K := by
  refine ocall_of (by decide) (Nat.le_of_ble_eq_true rfl) ?_
  show SR g (d + 1) iX11_hourOf 0 [(0, rf g 129), (1, .int l1)] I X (qI K)
  refine r_aload_n (n := 1) 0 dX11_hourOf_0 rfl rfl ?_
  refine r_getR (n := 4) cls_10 21 fi_10_21 so_129 gw_1047 dX11_hourOf_1 rfl sr_129_21 (by decide) ?_
  refine r_bipush (n := 6) (v := 18) dX11_hourOf_4 kb_18 rfl ?_
  refine r_iload_n (n := 7) 1 dX11_hourOf_6 rfl rfl ?_
  refine r_imul (n := 8) dX11_hourOf_7 rfl ?_
  refine r_bipush (n := 10) (v := 15) dX11_hourOf_8 kb_15 rfl ?_
  refine r_iadd (n := 11) dX11_hourOf_10 rfl ?_
  obtain ⟨hi1, H⟩ := H
  refine rs_iald (n := 12) sa_142 hi1 dX11_hourOf_11 rfl ?_
  exact rs_iret dX11_hourOf_12 rfl H
set_option maxRecDepth 20000 in
theorem en_X11_windOf {g : OG} {d : Nat} {I : IT} {X : XT} {K : Int32 → IT → XT → Prop} {l1 : Int32} 
    (H : ¬ (I 129 11) = 0 ∧
      vp_in (l1 - l1 / (I 129 11) * (I 129 11)) 6 ∧
      K (I 136 (l1 - l1 / (I 129 11) * (I 129 11)).toNatClampNeg) I X) : CI g (d + 1) iX11_windOf [rf g 129, .int l1] I X K := by
  refine ocall_of (by decide) (Nat.le_of_ble_eq_true rfl) ?_
  show SR g (d + 1) iX11_windOf 0 [(0, rf g 129), (1, .int l1)] I X (qI K)
  refine r_aload_n (n := 1) 0 dX11_windOf_0 rfl rfl ?_
  refine r_getR (n := 4) cls_10 12 fi_10_12 so_129 gw_1038 dX11_windOf_1 rfl sr_129_12 (by decide) ?_
  refine r_iload_n (n := 5) 1 dX11_windOf_4 rfl rfl ?_
  refine r_aload_n (n := 6) 0 dX11_windOf_5 rfl rfl ?_
  refine rs_getI (n := 9) cls_10 11 fi_10_11 so_129 gw_1037 dX11_windOf_6 rfl ?_
  obtain ⟨hz1, H⟩ := H
  refine r_irem (n := 10) dX11_windOf_9 hz1 rfl ?_
  obtain ⟨hi2, H⟩ := H
  refine rs_iald (n := 11) sa_136 hi2 dX11_windOf_10 rfl ?_
  exact rs_iret dX11_windOf_11 rfl H
set_option maxRecDepth 20000 in
theorem en_X11_canCarry {g : OG} {d : Nat} {I : IT} {X : XT} {K : Int32 → IT → XT → Prop} {l1 : Int32} {l2 : Int32} {l3 : Int32} 
    (H : (l2 = l3 →
        ((0 : Int32) = 0 →
          K 0 I X) ∧
        (¬ (0 : Int32) = 0 →
          CI g d iX11_size [.int (l2 - l3)] I X (fun r1 I2 X3 =>
            CI g d iX11_hourOf [rf g 129, .int l1] I2 X3 (fun r4 I5 X6 =>
              CI g d iX11_windOf [rf g 129, .int r4] I5 X6 (fun r7 I8 X9 =>
                ((3 - r7) < r1 →
                  K 0 I8 X9) ∧
                (¬ (3 - r7) < r1 →
                  K 1 I8 X9)))))) ∧
      (¬ l2 = l3 →
        vp_in ((18 * l1) + 17) 216 ∧
        (¬ (I 142 ((18 * l1) + 17).toNatClampNeg) = 0 →
          ((0 : Int32) = 0 →
            K 0 I X) ∧
          (¬ (0 : Int32) = 0 →
            CI g d iX11_size [.int (l2 - l3)] I X (fun r11 I12 X13 =>
              CI g d iX11_hourOf [rf g 129, .int l1] I12 X13 (fun r14 I15 X16 =>
                CI g d iX11_windOf [rf g 129, .int r14] I15 X16 (fun r17 I18 X19 =>
                  ((3 - r17) < r11 →
                    K 0 I18 X19) ∧
                  (¬ (3 - r17) < r11 →
                    K 1 I18 X19)))))) ∧
        ((I 142 ((18 * l1) + 17).toNatClampNeg) = 0 →
          CI g d iX11_isBurning [rf g 129, .int l1, .int l2] I X (fun r20 I21 X22 =>
            (r20 = 0 →
              ((0 : Int32) = 0 →
                K 0 I21 X22) ∧
              (¬ (0 : Int32) = 0 →
                CI g d iX11_size [.int (l2 - l3)] I21 X22 (fun r23 I24 X25 =>
                  CI g d iX11_hourOf [rf g 129, .int l1] I24 X25 (fun r26 I27 X28 =>
                    CI g d iX11_windOf [rf g 129, .int r26] I27 X28 (fun r29 I30 X31 =>
                      ((3 - r29) < r23 →
                        K 0 I30 X31) ∧
                      (¬ (3 - r29) < r23 →
                        K 1 I30 X31)))))) ∧
            (¬ r20 = 0 →
              CI g d iX11_isBurning [rf g 129, .int l1, .int l3] I21 X22 (fun r32 I33 X34 =>
                (¬ r32 = 0 →
                  ((0 : Int32) = 0 →
                    K 0 I33 X34) ∧
                  (¬ (0 : Int32) = 0 →
                    CI g d iX11_size [.int (l2 - l3)] I33 X34 (fun r35 I36 X37 =>
                      CI g d iX11_hourOf [rf g 129, .int l1] I36 X37 (fun r38 I39 X40 =>
                        CI g d iX11_windOf [rf g 129, .int r38] I39 X40 (fun r41 I42 X43 =>
                          ((3 - r41) < r35 →
                            K 0 I42 X43) ∧
                          (¬ (3 - r41) < r35 →
                            K 1 I42 X43)))))) ∧
                (r32 = 0 →
                  CI g d iX11_isCatching [rf g 129, .int l1, .int l3] I33 X34 (fun r44 I45 X46 =>
                    (r44 = 0 →
                      ((0 : Int32) = 0 →
                        K 0 I45 X46) ∧
                      (¬ (0 : Int32) = 0 →
                        CI g d iX11_size [.int (l2 - l3)] I45 X46 (fun r47 I48 X49 =>
                          CI g d iX11_hourOf [rf g 129, .int l1] I48 X49 (fun r50 I51 X52 =>
                            CI g d iX11_windOf [rf g 129, .int r50] I51 X52 (fun r53 I54 X55 =>
                              ((3 - r53) < r47 →
                                K 0 I54 X55) ∧
                              (¬ (3 - r53) < r47 →
                                K 1 I54 X55)))))) ∧
                    (¬ r44 = 0 →
                      ((1 : Int32) = 0 →
                        K 0 I45 X46) ∧
                      (¬ (1 : Int32) = 0 →
                        CI g d iX11_size [.int (l2 - l3)] I45 X46 (fun r56 I57 X58 =>
                          CI g d iX11_hourOf [rf g 129, .int l1] I57 X58 (fun r59 I60 X61 =>
                            CI g d iX11_windOf [rf g 129, .int r59] I60 X61 (fun r62 I63 X64 =>
                              ((3 - r62) < r56 →
                                K 0 I63 X64) ∧
                              (¬ (3 - r62) < r56 →
                                K 1 I63 X64)))))))))))))) : CI g (d + 1) iX11_canCarry [rf g 129, .int l1, .int l2, .int l3] I X K := by
  refine ocall_of (by decide) (Nat.le_of_ble_eq_true rfl) ?_
  show SR g (d + 1) iX11_canCarry 0 [(0, rf g 129), (1, .int l1), (2, .int l2), (3, .int l3)] I X (qI K)
  refine r_iload_n (n := 1) 2 dX11_canCarry_0 rfl rfl ?_
  refine r_iload_n (n := 2) 3 dX11_canCarry_1 rfl rfl ?_
  refine r_icmp_eq (n := 5) (tgt := 51) dX11_canCarry_2 (by decide) rfl (fun c => ?_) (fun c => ?_)
  · have H := H.1 c
    refine r_iconst (n := 52) (v := 0) dX11_canCarry_51 ki_0 rfl ?_
    refine r_istore (n := 54) (lv' := [(4, .int _), (0, .ref _), (1, .int _), (2, .int _), (3, .int _)]) dX11_canCarry_52 (by decide) rfl rfl ?_
    refine r_iload (n := 56) 0 dX11_canCarry_54 rfl rfl ?_
    refine r_if_eq (n := 59) (tgt := 83) dX11_canCarry_56 (by decide) rfl (fun c => ?_) (fun c => ?_)
    · have H := H.1 c
      refine r_iconst (n := 84) (v := 0) dX11_canCarry_83 ki_0 rfl ?_
      exact rs_zret dX11_canCarry_84 rfl (by decide) H
    · have H := H.2 c
      refine r_iload_n (n := 60) 3 dX11_canCarry_59 rfl rfl ?_
      refine r_iload_n (n := 61) 4 dX11_canCarry_60 rfl rfl ?_
      refine r_isub (n := 62) dX11_canCarry_61 rfl ?_
      refine rs_cSi (n := 65) (rest := []) (As := [.int _]) sm_X11_size gw_1310 dX11_canCarry_62 rfl rfl (Nat.le_of_ble_eq_true rfl) rfl (CI.mono H (fun r1 I2 X3 H => ?_))
      refine r_iconst (n := 66) (v := 3) dX11_canCarry_65 ki_3 rfl ?_
      refine r_aload_n (n := 67) 1 dX11_canCarry_66 rfl rfl ?_
      refine r_aload_n (n := 68) 1 dX11_canCarry_67 rfl rfl ?_
      refine r_iload_n (n := 69) 2 dX11_canCarry_68 rfl rfl ?_
      refine rs_cVi (n := 72) (rest := [.ref _, .int _, .int _]) (As := [.int _]) vm_X11_hourOf gw_1313 so_129 cq_10 dX11_canCarry_69 rfl rfl (Nat.le_of_ble_eq_true rfl) rfl (CI.mono H (fun r4 I5 X6 H => ?_))
      refine rs_cVi (n := 75) (rest := [.int _, .int _]) (As := [.int _]) vm_X11_windOf gw_1266 so_129 cq_10 dX11_canCarry_72 rfl rfl (Nat.le_of_ble_eq_true rfl) rfl (CI.mono H (fun r7 I8 X9 H => ?_))
      refine r_isub (n := 76) dX11_canCarry_75 rfl ?_
      refine r_icmp_gt (n := 79) (tgt := 83) dX11_canCarry_76 (by decide) rfl (fun c => ?_) (fun c => ?_)
      · have H := H.1 c
        refine r_iconst (n := 84) (v := 0) dX11_canCarry_83 ki_0 rfl ?_
        exact rs_zret dX11_canCarry_84 rfl (by decide) H
      · have H := H.2 c
        refine r_iconst (n := 80) (v := 1) dX11_canCarry_79 ki_1 rfl ?_
        refine r_goto (n := 84) dX11_canCarry_80 (by decide) ?_
        exact rs_zret dX11_canCarry_84 rfl (by decide) H
  · have H := H.2 c
    refine r_aload_n (n := 6) 0 dX11_canCarry_5 rfl rfl ?_
    refine r_getR (n := 9) cls_10 21 fi_10_21 so_129 gw_1047 dX11_canCarry_6 rfl sr_129_21 (by decide) ?_
    refine r_bipush (n := 11) (v := 18) dX11_canCarry_9 kb_18 rfl ?_
    refine r_iload_n (n := 12) 1 dX11_canCarry_11 rfl rfl ?_
    refine r_imul (n := 13) dX11_canCarry_12 rfl ?_
    refine r_bipush (n := 15) (v := 17) dX11_canCarry_13 kb_17 rfl ?_
    refine r_iadd (n := 16) dX11_canCarry_15 rfl ?_
    obtain ⟨hi10, H⟩ := H
    refine rs_iald (n := 17) sa_142 hi10 dX11_canCarry_16 rfl ?_
    refine r_if_ne (n := 20) (tgt := 51) dX11_canCarry_17 (by decide) rfl (fun c => ?_) (fun c => ?_)
    · have H := H.1 c
      refine r_iconst (n := 52) (v := 0) dX11_canCarry_51 ki_0 rfl ?_
      refine r_istore (n := 54) (lv' := [(4, .int _), (0, .ref _), (1, .int _), (2, .int _), (3, .int _)]) dX11_canCarry_52 (by decide) rfl rfl ?_
      refine r_iload (n := 56) 0 dX11_canCarry_54 rfl rfl ?_
      refine r_if_eq (n := 59) (tgt := 83) dX11_canCarry_56 (by decide) rfl (fun c => ?_) (fun c => ?_)
      · have H := H.1 c
        refine r_iconst (n := 84) (v := 0) dX11_canCarry_83 ki_0 rfl ?_
        exact rs_zret dX11_canCarry_84 rfl (by decide) H
      · have H := H.2 c
        refine r_iload_n (n := 60) 3 dX11_canCarry_59 rfl rfl ?_
        refine r_iload_n (n := 61) 4 dX11_canCarry_60 rfl rfl ?_
        refine r_isub (n := 62) dX11_canCarry_61 rfl ?_
        refine rs_cSi (n := 65) (rest := []) (As := [.int _]) sm_X11_size gw_1310 dX11_canCarry_62 rfl rfl (Nat.le_of_ble_eq_true rfl) rfl (CI.mono H (fun r11 I12 X13 H => ?_))
        refine r_iconst (n := 66) (v := 3) dX11_canCarry_65 ki_3 rfl ?_
        refine r_aload_n (n := 67) 1 dX11_canCarry_66 rfl rfl ?_
        refine r_aload_n (n := 68) 1 dX11_canCarry_67 rfl rfl ?_
        refine r_iload_n (n := 69) 2 dX11_canCarry_68 rfl rfl ?_
        refine rs_cVi (n := 72) (rest := [.ref _, .int _, .int _]) (As := [.int _]) vm_X11_hourOf gw_1313 so_129 cq_10 dX11_canCarry_69 rfl rfl (Nat.le_of_ble_eq_true rfl) rfl (CI.mono H (fun r14 I15 X16 H => ?_))
        refine rs_cVi (n := 75) (rest := [.int _, .int _]) (As := [.int _]) vm_X11_windOf gw_1266 so_129 cq_10 dX11_canCarry_72 rfl rfl (Nat.le_of_ble_eq_true rfl) rfl (CI.mono H (fun r17 I18 X19 H => ?_))
        refine r_isub (n := 76) dX11_canCarry_75 rfl ?_
        refine r_icmp_gt (n := 79) (tgt := 83) dX11_canCarry_76 (by decide) rfl (fun c => ?_) (fun c => ?_)
        · have H := H.1 c
          refine r_iconst (n := 84) (v := 0) dX11_canCarry_83 ki_0 rfl ?_
          exact rs_zret dX11_canCarry_84 rfl (by decide) H
        · have H := H.2 c
          refine r_iconst (n := 80) (v := 1) dX11_canCarry_79 ki_1 rfl ?_
          refine r_goto (n := 84) dX11_canCarry_80 (by decide) ?_
          exact rs_zret dX11_canCarry_84 rfl (by decide) H
    · have H := H.2 c
      refine r_aload_n (n := 21) 0 dX11_canCarry_20 rfl rfl ?_
      refine r_iload_n (n := 22) 1 dX11_canCarry_21 rfl rfl ?_
      refine r_iload_n (n := 23) 2 dX11_canCarry_22 rfl rfl ?_
      refine rs_cVi (n := 26) (rest := []) (As := [.int _, .int _]) vm_X11_isBurning gw_1306 so_129 cq_10 dX11_canCarry_23 rfl rfl (Nat.le_of_ble_eq_true rfl) rfl (CI.mono H (fun r20 I21 X22 H => ?_))
      refine r_if_eq (n := 29) (tgt := 51) dX11_canCarry_26 (by decide) rfl (fun c => ?_) (fun c => ?_)
      · have H := H.1 c
        refine r_iconst (n := 52) (v := 0) dX11_canCarry_51 ki_0 rfl ?_
        refine r_istore (n := 54) (lv' := [(4, .int _), (0, .ref _), (1, .int _), (2, .int _), (3, .int _)]) dX11_canCarry_52 (by decide) rfl rfl ?_
        refine r_iload (n := 56) 0 dX11_canCarry_54 rfl rfl ?_
        refine r_if_eq (n := 59) (tgt := 83) dX11_canCarry_56 (by decide) rfl (fun c => ?_) (fun c => ?_)
        · have H := H.1 c
          refine r_iconst (n := 84) (v := 0) dX11_canCarry_83 ki_0 rfl ?_
          exact rs_zret dX11_canCarry_84 rfl (by decide) H
        · have H := H.2 c
          refine r_iload_n (n := 60) 3 dX11_canCarry_59 rfl rfl ?_
          refine r_iload_n (n := 61) 4 dX11_canCarry_60 rfl rfl ?_
          refine r_isub (n := 62) dX11_canCarry_61 rfl ?_
          refine rs_cSi (n := 65) (rest := []) (As := [.int _]) sm_X11_size gw_1310 dX11_canCarry_62 rfl rfl (Nat.le_of_ble_eq_true rfl) rfl (CI.mono H (fun r23 I24 X25 H => ?_))
          refine r_iconst (n := 66) (v := 3) dX11_canCarry_65 ki_3 rfl ?_
          refine r_aload_n (n := 67) 1 dX11_canCarry_66 rfl rfl ?_
          refine r_aload_n (n := 68) 1 dX11_canCarry_67 rfl rfl ?_
          refine r_iload_n (n := 69) 2 dX11_canCarry_68 rfl rfl ?_
          refine rs_cVi (n := 72) (rest := [.ref _, .int _, .int _]) (As := [.int _]) vm_X11_hourOf gw_1313 so_129 cq_10 dX11_canCarry_69 rfl rfl (Nat.le_of_ble_eq_true rfl) rfl (CI.mono H (fun r26 I27 X28 H => ?_))
          refine rs_cVi (n := 75) (rest := [.int _, .int _]) (As := [.int _]) vm_X11_windOf gw_1266 so_129 cq_10 dX11_canCarry_72 rfl rfl (Nat.le_of_ble_eq_true rfl) rfl (CI.mono H (fun r29 I30 X31 H => ?_))
          refine r_isub (n := 76) dX11_canCarry_75 rfl ?_
          refine r_icmp_gt (n := 79) (tgt := 83) dX11_canCarry_76 (by decide) rfl (fun c => ?_) (fun c => ?_)
          · have H := H.1 c
            refine r_iconst (n := 84) (v := 0) dX11_canCarry_83 ki_0 rfl ?_
            exact rs_zret dX11_canCarry_84 rfl (by decide) H
          · have H := H.2 c
            refine r_iconst (n := 80) (v := 1) dX11_canCarry_79 ki_1 rfl ?_
            refine r_goto (n := 84) dX11_canCarry_80 (by decide) ?_
            exact rs_zret dX11_canCarry_84 rfl (by decide) H
      · have H := H.2 c
        refine r_aload_n (n := 30) 0 dX11_canCarry_29 rfl rfl ?_
        refine r_iload_n (n := 31) 1 dX11_canCarry_30 rfl rfl ?_
        refine r_iload_n (n := 32) 3 dX11_canCarry_31 rfl rfl ?_
        refine rs_cVi (n := 35) (rest := []) (As := [.int _, .int _]) vm_X11_isBurning gw_1306 so_129 cq_10 dX11_canCarry_32 rfl rfl (Nat.le_of_ble_eq_true rfl) rfl (CI.mono H (fun r32 I33 X34 H => ?_))
        refine r_if_ne (n := 38) (tgt := 51) dX11_canCarry_35 (by decide) rfl (fun c => ?_) (fun c => ?_)
        · have H := H.1 c
          refine r_iconst (n := 52) (v := 0) dX11_canCarry_51 ki_0 rfl ?_
          refine r_istore (n := 54) (lv' := [(4, .int _), (0, .ref _), (1, .int _), (2, .int _), (3, .int _)]) dX11_canCarry_52 (by decide) rfl rfl ?_
          refine r_iload (n := 56) 0 dX11_canCarry_54 rfl rfl ?_
          refine r_if_eq (n := 59) (tgt := 83) dX11_canCarry_56 (by decide) rfl (fun c => ?_) (fun c => ?_)
          · have H := H.1 c
            refine r_iconst (n := 84) (v := 0) dX11_canCarry_83 ki_0 rfl ?_
            exact rs_zret dX11_canCarry_84 rfl (by decide) H
          · have H := H.2 c
            refine r_iload_n (n := 60) 3 dX11_canCarry_59 rfl rfl ?_
            refine r_iload_n (n := 61) 4 dX11_canCarry_60 rfl rfl ?_
            refine r_isub (n := 62) dX11_canCarry_61 rfl ?_
            refine rs_cSi (n := 65) (rest := []) (As := [.int _]) sm_X11_size gw_1310 dX11_canCarry_62 rfl rfl (Nat.le_of_ble_eq_true rfl) rfl (CI.mono H (fun r35 I36 X37 H => ?_))
            refine r_iconst (n := 66) (v := 3) dX11_canCarry_65 ki_3 rfl ?_
            refine r_aload_n (n := 67) 1 dX11_canCarry_66 rfl rfl ?_
            refine r_aload_n (n := 68) 1 dX11_canCarry_67 rfl rfl ?_
            refine r_iload_n (n := 69) 2 dX11_canCarry_68 rfl rfl ?_
            refine rs_cVi (n := 72) (rest := [.ref _, .int _, .int _]) (As := [.int _]) vm_X11_hourOf gw_1313 so_129 cq_10 dX11_canCarry_69 rfl rfl (Nat.le_of_ble_eq_true rfl) rfl (CI.mono H (fun r38 I39 X40 H => ?_))
            refine rs_cVi (n := 75) (rest := [.int _, .int _]) (As := [.int _]) vm_X11_windOf gw_1266 so_129 cq_10 dX11_canCarry_72 rfl rfl (Nat.le_of_ble_eq_true rfl) rfl (CI.mono H (fun r41 I42 X43 H => ?_))
            refine r_isub (n := 76) dX11_canCarry_75 rfl ?_
            refine r_icmp_gt (n := 79) (tgt := 83) dX11_canCarry_76 (by decide) rfl (fun c => ?_) (fun c => ?_)
            · have H := H.1 c
              refine r_iconst (n := 84) (v := 0) dX11_canCarry_83 ki_0 rfl ?_
              exact rs_zret dX11_canCarry_84 rfl (by decide) H
            · have H := H.2 c
              refine r_iconst (n := 80) (v := 1) dX11_canCarry_79 ki_1 rfl ?_
              refine r_goto (n := 84) dX11_canCarry_80 (by decide) ?_
              exact rs_zret dX11_canCarry_84 rfl (by decide) H
        · have H := H.2 c
          refine r_aload_n (n := 39) 0 dX11_canCarry_38 rfl rfl ?_
          refine r_iload_n (n := 40) 1 dX11_canCarry_39 rfl rfl ?_
          refine r_iload_n (n := 41) 3 dX11_canCarry_40 rfl rfl ?_
          refine rs_cVi (n := 44) (rest := []) (As := [.int _, .int _]) vm_X11_isCatching gw_1258 so_129 cq_10 dX11_canCarry_41 rfl rfl (Nat.le_of_ble_eq_true rfl) rfl (CI.mono H (fun r44 I45 X46 H => ?_))
          refine r_if_eq (n := 47) (tgt := 51) dX11_canCarry_44 (by decide) rfl (fun c => ?_) (fun c => ?_)
          · have H := H.1 c
            refine r_iconst (n := 52) (v := 0) dX11_canCarry_51 ki_0 rfl ?_
            refine r_istore (n := 54) (lv' := [(4, .int _), (0, .ref _), (1, .int _), (2, .int _), (3, .int _)]) dX11_canCarry_52 (by decide) rfl rfl ?_
            refine r_iload (n := 56) 0 dX11_canCarry_54 rfl rfl ?_
            refine r_if_eq (n := 59) (tgt := 83) dX11_canCarry_56 (by decide) rfl (fun c => ?_) (fun c => ?_)
            · have H := H.1 c
              refine r_iconst (n := 84) (v := 0) dX11_canCarry_83 ki_0 rfl ?_
              exact rs_zret dX11_canCarry_84 rfl (by decide) H
            · have H := H.2 c
              refine r_iload_n (n := 60) 3 dX11_canCarry_59 rfl rfl ?_
              refine r_iload_n (n := 61) 4 dX11_canCarry_60 rfl rfl ?_
              refine r_isub (n := 62) dX11_canCarry_61 rfl ?_
              refine rs_cSi (n := 65) (rest := []) (As := [.int _]) sm_X11_size gw_1310 dX11_canCarry_62 rfl rfl (Nat.le_of_ble_eq_true rfl) rfl (CI.mono H (fun r47 I48 X49 H => ?_))
              refine r_iconst (n := 66) (v := 3) dX11_canCarry_65 ki_3 rfl ?_
              refine r_aload_n (n := 67) 1 dX11_canCarry_66 rfl rfl ?_
              refine r_aload_n (n := 68) 1 dX11_canCarry_67 rfl rfl ?_
              refine r_iload_n (n := 69) 2 dX11_canCarry_68 rfl rfl ?_
              refine rs_cVi (n := 72) (rest := [.ref _, .int _, .int _]) (As := [.int _]) vm_X11_hourOf gw_1313 so_129 cq_10 dX11_canCarry_69 rfl rfl (Nat.le_of_ble_eq_true rfl) rfl (CI.mono H (fun r50 I51 X52 H => ?_))
              refine rs_cVi (n := 75) (rest := [.int _, .int _]) (As := [.int _]) vm_X11_windOf gw_1266 so_129 cq_10 dX11_canCarry_72 rfl rfl (Nat.le_of_ble_eq_true rfl) rfl (CI.mono H (fun r53 I54 X55 H => ?_))
              refine r_isub (n := 76) dX11_canCarry_75 rfl ?_
              refine r_icmp_gt (n := 79) (tgt := 83) dX11_canCarry_76 (by decide) rfl (fun c => ?_) (fun c => ?_)
              · have H := H.1 c
                refine r_iconst (n := 84) (v := 0) dX11_canCarry_83 ki_0 rfl ?_
                exact rs_zret dX11_canCarry_84 rfl (by decide) H
              · have H := H.2 c
                refine r_iconst (n := 80) (v := 1) dX11_canCarry_79 ki_1 rfl ?_
                refine r_goto (n := 84) dX11_canCarry_80 (by decide) ?_
                exact rs_zret dX11_canCarry_84 rfl (by decide) H
          · have H := H.2 c
            refine r_iconst (n := 48) (v := 1) dX11_canCarry_47 ki_1 rfl ?_
            refine r_goto (n := 52) dX11_canCarry_48 (by decide) ?_
            refine r_istore (n := 54) (lv' := [(4, .int _), (0, .ref _), (1, .int _), (2, .int _), (3, .int _)]) dX11_canCarry_52 (by decide) rfl rfl ?_
            refine r_iload (n := 56) 0 dX11_canCarry_54 rfl rfl ?_
            refine r_if_eq (n := 59) (tgt := 83) dX11_canCarry_56 (by decide) rfl (fun c => ?_) (fun c => ?_)
            · have H := H.1 c
              refine r_iconst (n := 84) (v := 0) dX11_canCarry_83 ki_0 rfl ?_
              exact rs_zret dX11_canCarry_84 rfl (by decide) H
            · have H := H.2 c
              refine r_iload_n (n := 60) 3 dX11_canCarry_59 rfl rfl ?_
              refine r_iload_n (n := 61) 4 dX11_canCarry_60 rfl rfl ?_
              refine r_isub (n := 62) dX11_canCarry_61 rfl ?_
              refine rs_cSi (n := 65) (rest := []) (As := [.int _]) sm_X11_size gw_1310 dX11_canCarry_62 rfl rfl (Nat.le_of_ble_eq_true rfl) rfl (CI.mono H (fun r56 I57 X58 H => ?_))
              refine r_iconst (n := 66) (v := 3) dX11_canCarry_65 ki_3 rfl ?_
              refine r_aload_n (n := 67) 1 dX11_canCarry_66 rfl rfl ?_
              refine r_aload_n (n := 68) 1 dX11_canCarry_67 rfl rfl ?_
              refine r_iload_n (n := 69) 2 dX11_canCarry_68 rfl rfl ?_
              refine rs_cVi (n := 72) (rest := [.ref _, .int _, .int _]) (As := [.int _]) vm_X11_hourOf gw_1313 so_129 cq_10 dX11_canCarry_69 rfl rfl (Nat.le_of_ble_eq_true rfl) rfl (CI.mono H (fun r59 I60 X61 H => ?_))
              refine rs_cVi (n := 75) (rest := [.int _, .int _]) (As := [.int _]) vm_X11_windOf gw_1266 so_129 cq_10 dX11_canCarry_72 rfl rfl (Nat.le_of_ble_eq_true rfl) rfl (CI.mono H (fun r62 I63 X64 H => ?_))
              refine r_isub (n := 76) dX11_canCarry_75 rfl ?_
              refine r_icmp_gt (n := 79) (tgt := 83) dX11_canCarry_76 (by decide) rfl (fun c => ?_) (fun c => ?_)
              · have H := H.1 c
                refine r_iconst (n := 84) (v := 0) dX11_canCarry_83 ki_0 rfl ?_
                exact rs_zret dX11_canCarry_84 rfl (by decide) H
              · have H := H.2 c
                refine r_iconst (n := 80) (v := 1) dX11_canCarry_79 ki_1 rfl ?_
                refine r_goto (n := 84) dX11_canCarry_80 (by decide) ?_
                exact rs_zret dX11_canCarry_84 rfl (by decide) H
set_option maxRecDepth 20000 in
theorem en_X11_carries {g : OG} {d : Nat} {I : IT} {X : XT} {K : IT → XT → Prop} {l1 : Int32} {l2 : Int32} 
    (H : vp_in (((18 * l1) + 10) + l2) 216 ∧
      ∀ I2 : IT, I2 = set2 I 142 (((18 * l1) + 10) + l2).toNatClampNeg 1 →
      vp_in ((18 * l1) + 17) 216 ∧
      ∀ I4 : IT, I4 = set2 I2 142 ((18 * l1) + 17).toNatClampNeg 1 →
      K I4 X) : CV g (d + 1) iX11_carries [rf g 129, .int l1, .int l2] I X K := by
  refine ocall_of (by decide) (Nat.le_of_ble_eq_true rfl) ?_
  show SR g (d + 1) iX11_carries 0 [(0, rf g 129), (1, .int l1), (2, .int l2)] I X (qV K)
  refine r_aload_n (n := 1) 0 dX11_carries_0 rfl rfl ?_
  refine r_getR (n := 4) cls_10 21 fi_10_21 so_129 gw_1047 dX11_carries_1 rfl sr_129_21 (by decide) ?_
  refine r_bipush (n := 6) (v := 18) dX11_carries_4 kb_18 rfl ?_
  refine r_iload_n (n := 7) 1 dX11_carries_6 rfl rfl ?_
  refine r_imul (n := 8) dX11_carries_7 rfl ?_
  refine r_bipush (n := 10) (v := 10) dX11_carries_8 kb_10 rfl ?_
  refine r_iadd (n := 11) dX11_carries_10 rfl ?_
  refine r_iload_n (n := 12) 2 dX11_carries_11 rfl rfl ?_
  refine r_iadd (n := 13) dX11_carries_12 rfl ?_
  refine r_iconst (n := 14) (v := 1) dX11_carries_13 ki_1 rfl ?_
  obtain ⟨hi1, H⟩ := H
  have H := H _ rfl
  refine rs_iast (n := 15) sa_142 hi1 dX11_carries_14 rfl ?_
  refine r_aload_n (n := 16) 0 dX11_carries_15 rfl rfl ?_
  refine r_getR (n := 19) cls_10 21 fi_10_21 so_129 gw_1047 dX11_carries_16 rfl sr_129_21 (by decide) ?_
  refine r_bipush (n := 21) (v := 18) dX11_carries_19 kb_18 rfl ?_
  refine r_iload_n (n := 22) 1 dX11_carries_21 rfl rfl ?_
  refine r_imul (n := 23) dX11_carries_22 rfl ?_
  refine r_bipush (n := 25) (v := 17) dX11_carries_23 kb_17 rfl ?_
  refine r_iadd (n := 26) dX11_carries_25 rfl ?_
  refine r_iconst (n := 27) (v := 1) dX11_carries_26 ki_1 rfl ?_
  obtain ⟨hi3, H⟩ := H
  have H := H _ rfl
  refine rs_iast (n := 28) sa_142 hi3 dX11_carries_27 rfl ?_
  exact rs_vret dX11_carries_28 rfl H
set_option maxRecDepth 20000 in
theorem en_X11_takesIn {g : OG} {d : Nat} {I : IT} {X : XT} {K : Int32 → IT → XT → Prop} {l1 : Int32} {l2 : Int32} 
    (H : vp_in l1 5 ∧
      ((I 137 l1.toNatClampNeg) = 1 →
        (¬ (l2 - l2 / 2 * 2) = 1 →
          K 1 I X) ∧
        ((l2 - l2 / 2 * 2) = 1 →
          K 0 I X)) ∧
      (¬ (I 137 l1.toNatClampNeg) = 1 →
        ((I 137 l1.toNatClampNeg) = 2 →
        K 1 I X) ∧
      (¬ (I 137 l1.toNatClampNeg) = 2 →
        ((I 137 l1.toNatClampNeg) = 3 →
        K 2 I X) ∧
      (¬ (I 137 l1.toNatClampNeg) = 3 →
        ((I 137 l1.toNatClampNeg) = 4 →
        (¬ (l2 - l2 / 4 * 4) = 0 →
          K 0 I X) ∧
        ((l2 - l2 / 4 * 4) = 0 →
          K 1 I X)) ∧
      (¬ (I 137 l1.toNatClampNeg) = 4 →
        K 1 I X))))) : CI g (d + 1) iX11_takesIn [rf g 129, .int l1, .int l2] I X K := by
  refine ocall_of (by decide) (Nat.le_of_ble_eq_true rfl) ?_
  show SR g (d + 1) iX11_takesIn 0 [(0, rf g 129), (1, .int l1), (2, .int l2)] I X (qI K)
  refine r_aload_n (n := 1) 0 dX11_takesIn_0 rfl rfl ?_
  refine r_getR (n := 4) cls_10 13 fi_10_13 so_129 gw_1039 dX11_takesIn_1 rfl sr_129_13 (by decide) ?_
  refine r_iload_n (n := 5) 1 dX11_takesIn_4 rfl rfl ?_
  obtain ⟨hi1, H⟩ := H
  refine rs_iald (n := 6) sa_137 hi1 dX11_takesIn_5 rfl ?_
  refine sw_split H (fun cs2 H => ?_) (fun cs2 H => ?_)
  · refine r_tcase (n := 36) (v := 1) (off := 30) dX11_takesIn_6 cs2 (by decide) (by decide) (by decide) ?_
    refine r_iload_n (n := 37) 2 dX11_takesIn_36 rfl rfl ?_
    refine r_iconst (n := 38) (v := 2) dX11_takesIn_37 ki_2 rfl ?_
    refine r_irem (n := 39) dX11_takesIn_38 (by decide) rfl ?_
    refine r_iconst (n := 40) (v := 1) dX11_takesIn_39 ki_1 rfl ?_
    refine r_icmp_ne (n := 43) (tgt := 47) dX11_takesIn_40 (by decide) rfl (fun c => ?_) (fun c => ?_)
    · have H := H.1 c
      refine r_iconst (n := 48) (v := 1) dX11_takesIn_47 ki_1 rfl ?_
      exact rs_iret dX11_takesIn_48 rfl H
    · have H := H.2 c
      refine r_iconst (n := 44) (v := 0) dX11_takesIn_43 ki_0 rfl ?_
      refine r_goto (n := 48) dX11_takesIn_44 (by decide) ?_
      exact rs_iret dX11_takesIn_48 rfl H
  · skip
    refine sw_split H (fun cs3 H => ?_) (fun cs3 H => ?_)
    · refine r_tcase (n := 63) (v := 2) (off := 57) dX11_takesIn_6 cs3 (by decide) (by decide) (by decide) ?_
      refine r_iconst (n := 64) (v := 1) dX11_takesIn_63 ki_1 rfl ?_
      exact rs_iret dX11_takesIn_64 rfl H
    · skip
      refine sw_split H (fun cs4 H => ?_) (fun cs4 H => ?_)
      · refine r_tcase (n := 61) (v := 3) (off := 55) dX11_takesIn_6 cs4 (by decide) (by decide) (by decide) ?_
        refine r_iconst (n := 62) (v := 2) dX11_takesIn_61 ki_2 rfl ?_
        exact rs_iret dX11_takesIn_62 rfl H
      · skip
        refine sw_split H (fun cs5 H => ?_) (fun cs5 H => ?_)
        · refine r_tcase (n := 49) (v := 4) (off := 43) dX11_takesIn_6 cs5 (by decide) (by decide) (by decide) ?_
          refine r_iload_n (n := 50) 2 dX11_takesIn_49 rfl rfl ?_
          refine r_iconst (n := 51) (v := 4) dX11_takesIn_50 ki_4 rfl ?_
          refine r_irem (n := 52) dX11_takesIn_51 (by decide) rfl ?_
          refine r_if_ne (n := 55) (tgt := 59) dX11_takesIn_52 (by decide) rfl (fun c => ?_) (fun c => ?_)
          · have H := H.1 c
            refine r_iconst (n := 60) (v := 0) dX11_takesIn_59 ki_0 rfl ?_
            exact rs_iret dX11_takesIn_60 rfl H
          · have H := H.2 c
            refine r_iconst (n := 56) (v := 1) dX11_takesIn_55 ki_1 rfl ?_
            refine r_goto (n := 60) dX11_takesIn_56 (by decide) ?_
            exact rs_iret dX11_takesIn_60 rfl H
        · skip
          refine r_tout (n := 63) dX11_takesIn_6 (by have e0 := lv_neT cs2 (a := 1) (by decide); have e1 := lv_neT cs3 (a := 2) (by decide); have e2 := lv_neT cs4 (a := 3) (by decide); have e3 := lv_neT cs5 (a := 4) (by decide); omega) (by decide) ?_
          refine r_iconst (n := 64) (v := 1) dX11_takesIn_63 ki_1 rfl ?_
          exact rs_iret dX11_takesIn_64 rfl H
set_option maxRecDepth 20000 in
theorem en_X11_burning {g : OG} {d : Nat} {I : IT} {X : XT} {K : Int32 → IT → XT → Prop} {l1 : Int32} 
    (H : SR g (d + 1) iX11_burning 4 [(0, rf g 129), (1, .int l1), (2, .int 0), (3, .int 0)] I X (qI K)) : CI g (d + 1) iX11_burning [rf g 129, .int l1] I X K := by
  refine ocall_of (by decide) (Nat.le_of_ble_eq_true rfl) ?_
  show SR g (d + 1) iX11_burning 0 [(0, rf g 129), (1, .int l1)] I X (qI K)
  refine r_iconst (n := 1) (v := 0) dX11_burning_0 ki_0 rfl ?_
  refine r_istore_n (n := 2) (lv' := [(2, .int _), (0, .ref _), (1, .int _)]) dX11_burning_1 rfl (by decide) rfl rfl ?_
  refine r_iconst (n := 3) (v := 0) dX11_burning_2 ki_0 rfl ?_
  refine r_istore_n (n := 4) (lv' := [(3, .int _), (2, .int _), (0, .ref _), (1, .int _)]) dX11_burning_3 rfl (by decide) rfl rfl ?_
  exact r_sub [2, 3, 1, 0] rfl H
set_option maxRecDepth 20000 in
theorem rg_X11_burning_4 {g : OG} {d : Nat} {I : IT} {X : XT} {K : Int32 → IT → XT → Prop} {l1 : Int32} {l2 : Int32} {l3 : Int32} 
    (H : ((I 129 10) ≤ l3 →
        K l2 I X) ∧
      (¬ (I 129 10) ≤ l3 →
        CI g d iX11_isBurning [rf g 129, .int l1, .int l3] I X (fun r1 I2 X3 =>
          (r1 = 0 →
            ∀ x4 : Int32, x4 = l2 ||| 0 →
            ∀ x5 : Int32, x5 = l3 + 1 →
            SR g (d + 1) iX11_burning 4 [(0, rf g 129), (1, .int l1), (2, .int x4), (3, .int x5)] I2 X3 (qI K)) ∧
          (¬ r1 = 0 →
            ∀ x6 : Int32, x6 = l2 ||| (1 <<< (l3 &&& 31)) →
            ∀ x7 : Int32, x7 = l3 + 1 →
            SR g (d + 1) iX11_burning 4 [(0, rf g 129), (1, .int l1), (2, .int x6), (3, .int x7)] I2 X3 (qI K))))) : SR g (d + 1) iX11_burning 4 [(0, rf g 129), (1, .int l1), (2, .int l2), (3, .int l3)] I X (qI K) := by
  refine r_iload_n (n := 5) 3 dX11_burning_4 rfl rfl ?_
  refine r_aload_n (n := 6) 0 dX11_burning_5 rfl rfl ?_
  refine rs_getI (n := 9) cls_10 10 fi_10_10 so_129 gw_1036 dX11_burning_6 rfl ?_
  refine r_icmp_ge (n := 12) (tgt := 37) dX11_burning_9 (by decide) rfl (fun c => ?_) (fun c => ?_)
  · have H := H.1 c
    refine r_iload_n (n := 38) 2 dX11_burning_37 rfl rfl ?_
    exact rs_iret dX11_burning_38 rfl H
  · have H := H.2 c
    refine r_iload_n (n := 13) 2 dX11_burning_12 rfl rfl ?_
    refine r_aload_n (n := 14) 0 dX11_burning_13 rfl rfl ?_
    refine r_iload_n (n := 15) 1 dX11_burning_14 rfl rfl ?_
    refine r_iload_n (n := 16) 3 dX11_burning_15 rfl rfl ?_
    refine rs_cVi (n := 19) (rest := [.int _]) (As := [.int _, .int _]) vm_X11_isBurning gw_1306 so_129 cq_10 dX11_burning_16 rfl rfl (Nat.le_of_ble_eq_true rfl) rfl (CI.mono H (fun r1 I2 X3 H => ?_))
    refine r_if_eq (n := 22) (tgt := 28) dX11_burning_19 (by decide) rfl (fun c => ?_) (fun c => ?_)
    · have H := H.1 c
      refine r_iconst (n := 29) (v := 0) dX11_burning_28 ki_0 rfl ?_
      refine r_ior (n := 30) dX11_burning_29 rfl ?_
      have H := H _ rfl
      refine r_istore_n (n := 31) (lv' := [(2, .int _), (0, .ref _), (1, .int _), (3, .int _)]) dX11_burning_30 rfl (by decide) rfl rfl ?_
      have H := H _ rfl
      refine r_iinc (n := 34) (lv' := [(3, .int _), (2, .int _), (0, .ref _), (1, .int _)]) 3 dX11_burning_31 rfl rfl (by decide) rfl rfl ?_
      refine r_goto (n := 4) dX11_burning_34 (by decide) ?_
      exact r_sub [2, 3, 1, 0] rfl H
    · have H := H.2 c
      refine r_iconst (n := 23) (v := 1) dX11_burning_22 ki_1 rfl ?_
      refine r_iload_n (n := 24) 3 dX11_burning_23 rfl rfl ?_
      refine r_ishl (n := 25) dX11_burning_24 rfl ?_
      refine r_goto (n := 29) dX11_burning_25 (by decide) ?_
      refine r_ior (n := 30) dX11_burning_29 rfl ?_
      have H := H _ rfl
      refine r_istore_n (n := 31) (lv' := [(2, .int _), (0, .ref _), (1, .int _), (3, .int _)]) dX11_burning_30 rfl (by decide) rfl rfl ?_
      have H := H _ rfl
      refine r_iinc (n := 34) (lv' := [(3, .int _), (2, .int _), (0, .ref _), (1, .int _)]) 3 dX11_burning_31 rfl rfl (by decide) rfl rfl ?_
      refine r_goto (n := 4) dX11_burning_34 (by decide) ?_
      exact r_sub [2, 3, 1, 0] rfl H
set_option maxRecDepth 20000 in
theorem en_X11_passes {g : OG} {d : Nat} {I : IT} {X : XT} {K : IT → XT → Prop} {l1 : Int32} 
    (H : CI g d iX11_burning [rf g 129, .int l1] I X (fun r1 I2 X3 =>
        ∀ x4 : Int32, x4 = 18 * l1 →
        SR g (d + 1) iX11_passes 14 [(0, rf g 129), (2, .int r1), (3, .int x4), (4, .int 0)] I2 X3 (qV K))) : CV g (d + 1) iX11_passes [rf g 129, .int l1] I X K := by
  refine ocall_of (by decide) (Nat.le_of_ble_eq_true rfl) ?_
  show SR g (d + 1) iX11_passes 0 [(0, rf g 129), (1, .int l1)] I X (qV K)
  refine r_aload_n (n := 1) 0 dX11_passes_0 rfl rfl ?_
  refine r_iload_n (n := 2) 1 dX11_passes_1 rfl rfl ?_
  refine rs_cVi (n := 5) (rest := []) (As := [.int _]) vm_X11_burning gw_1321 so_129 cq_10 dX11_passes_2 rfl rfl (Nat.le_of_ble_eq_true rfl) rfl (CI.mono H (fun r1 I2 X3 H => ?_))
  refine r_istore_n (n := 6) (lv' := [(2, .int _), (0, .ref _), (1, .int _)]) dX11_passes_5 rfl (by decide) rfl rfl ?_
  refine r_bipush (n := 8) (v := 18) dX11_passes_6 kb_18 rfl ?_
  refine r_iload_n (n := 9) 2 dX11_passes_8 rfl rfl ?_
  refine r_imul (n := 10) dX11_passes_9 rfl ?_
  have H := H _ rfl
  refine r_istore_n (n := 11) (lv' := [(3, .int _), (2, .int _), (0, .ref _), (1, .int _)]) dX11_passes_10 rfl (by decide) rfl rfl ?_
  refine r_iconst (n := 12) (v := 0) dX11_passes_11 ki_0 rfl ?_
  refine r_istore (n := 14) (lv' := [(4, .int _), (3, .int _), (2, .int _), (0, .ref _), (1, .int _)]) dX11_passes_12 (by decide) rfl rfl ?_
  exact r_sub [3, 2, 1, 0] rfl H
set_option maxRecDepth 20000 in
theorem rg_X11_passes_14 {g : OG} {d : Nat} {I : IT} {X : XT} {K : IT → XT → Prop} {l2 : Int32} {l3 : Int32} {l4 : Int32} 
    (H : ((I 129 10) ≤ l4 →
        vp_in (l3 + 15) 216 ∧
        vp_in (l3 + 15) 216 ∧
        ∀ I3 : IT, I3 = set2 I 142 (l3 + 15).toNatClampNeg ((I 142 (l3 + 15).toNatClampNeg) + 1) →
        vp_in (l3 + 17) 216 ∧
        ∀ I5 : IT, I5 = set2 I3 142 (l3 + 17).toNatClampNeg 0 →
        K I5 X) ∧
      (¬ (I 129 10) ≤ l4 →
        CI g d iX11_has [.int l2, .int l4] I X (fun r6 I7 X8 =>
          (r6 = 0 →
            CI g d iX11_has [.int l2, .int (l4 + 1)] I7 X8 (fun r9 I10 X11 =>
              (¬ r9 = 0 →
                vp_in ((l3 + 5) + l4) 216 ∧
                vp_in ((l3 + 5) + l4) 216 ∧
                ((I10 142 ((l3 + 5) + l4).toNatClampNeg) ≤ 0 →
                  vp_in ((l3 + 5) + l4) 216 ∧
                  ∀ I15 : IT, I15 = set2 I10 142 ((l3 + 5) + l4).toNatClampNeg ((I10 142 ((l3 + 5) + l4).toNatClampNeg) - 0) →
                  ∀ x16 : Int32, x16 = l4 + 1 →
                  SR g (d + 1) iX11_passes 14 [(0, rf g 129), (2, .int l2), (3, .int l3), (4, .int x16)] I15 X11 (qV K)) ∧
                (¬ (I10 142 ((l3 + 5) + l4).toNatClampNeg) ≤ 0 →
                  vp_in ((l3 + 5) + l4) 216 ∧
                  ∀ I18 : IT, I18 = set2 I10 142 ((l3 + 5) + l4).toNatClampNeg ((I10 142 ((l3 + 5) + l4).toNatClampNeg) - 1) →
                  ∀ x19 : Int32, x19 = l4 + 1 →
                  SR g (d + 1) iX11_passes 14 [(0, rf g 129), (2, .int l2), (3, .int l3), (4, .int x19)] I18 X11 (qV K))) ∧
              (r9 = 0 →
                (l4 ≤ 0 →
                  ∀ x20 : Int32, x20 = l4 + 1 →
                  SR g (d + 1) iX11_passes 14 [(0, rf g 129), (2, .int l2), (3, .int l3), (4, .int x20)] I10 X11 (qV K)) ∧
                (¬ l4 ≤ 0 →
                  CI g d iX11_has [.int l2, .int (l4 - 1)] I10 X11 (fun r21 I22 X23 =>
                    (r21 = 0 →
                      ∀ x24 : Int32, x24 = l4 + 1 →
                      SR g (d + 1) iX11_passes 14 [(0, rf g 129), (2, .int l2), (3, .int l3), (4, .int x24)] I22 X23 (qV K)) ∧
                    (¬ r21 = 0 →
                      vp_in ((l3 + 5) + l4) 216 ∧
                      vp_in ((l3 + 5) + l4) 216 ∧
                      ((I22 142 ((l3 + 5) + l4).toNatClampNeg) ≤ 0 →
                        vp_in ((l3 + 5) + l4) 216 ∧
                        ∀ I28 : IT, I28 = set2 I22 142 ((l3 + 5) + l4).toNatClampNeg ((I22 142 ((l3 + 5) + l4).toNatClampNeg) - 0) →
                        ∀ x29 : Int32, x29 = l4 + 1 →
                        SR g (d + 1) iX11_passes 14 [(0, rf g 129), (2, .int l2), (3, .int l3), (4, .int x29)] I28 X23 (qV K)) ∧
                      (¬ (I22 142 ((l3 + 5) + l4).toNatClampNeg) ≤ 0 →
                        vp_in ((l3 + 5) + l4) 216 ∧
                        ∀ I31 : IT, I31 = set2 I22 142 ((l3 + 5) + l4).toNatClampNeg ((I22 142 ((l3 + 5) + l4).toNatClampNeg) - 1) →
                        ∀ x32 : Int32, x32 = l4 + 1 →
                        SR g (d + 1) iX11_passes 14 [(0, rf g 129), (2, .int l2), (3, .int l3), (4, .int x32)] I31 X23 (qV K)))))))) ∧
          (¬ r6 = 0 →
            vp_in (l3 + 15) 216 ∧
            CI g d iX11_takesIn [rf g 129, .int l4, .int (I7 142 (l3 + 15).toNatClampNeg)] I7 X8 (fun r34 I35 X36 =>
              vp_in (l3 + l4) 216 ∧
              ((I35 142 (l3 + l4).toNatClampNeg) ≤ r34 →
                vp_in (l3 + l4) 216 ∧
                ∀ I39 : IT, I39 = set2 I35 142 (l3 + l4).toNatClampNeg 0 →
                vp_in (l3 + l4) 216 ∧
                ((I39 142 (l3 + l4).toNatClampNeg) ≤ 0 →
                  vp_in ((l3 + 10) + l4) 216 ∧
                  ∀ I42 : IT, I42 = set2 I39 142 ((l3 + 10) + l4).toNatClampNeg 0 →
                  ∀ x43 : Int32, x43 = l4 + 1 →
                  SR g (d + 1) iX11_passes 14 [(0, rf g 129), (2, .int l2), (3, .int l3), (4, .int x43)] I42 X36 (qV K)) ∧
                (¬ (I39 142 (l3 + l4).toNatClampNeg) ≤ 0 →
                  vp_in ((l3 + 10) + l4) 216 ∧
                  ∀ I45 : IT, I45 = set2 I39 142 ((l3 + 10) + l4).toNatClampNeg 1 →
                  ∀ x46 : Int32, x46 = l4 + 1 →
                  SR g (d + 1) iX11_passes 14 [(0, rf g 129), (2, .int l2), (3, .int l3), (4, .int x46)] I45 X36 (qV K))) ∧
              (¬ (I35 142 (l3 + l4).toNatClampNeg) ≤ r34 →
                vp_in (l3 + l4) 216 ∧
                vp_in (l3 + l4) 216 ∧
                ∀ I49 : IT, I49 = set2 I35 142 (l3 + l4).toNatClampNeg ((I35 142 (l3 + l4).toNatClampNeg) - r34) →
                vp_in (l3 + l4) 216 ∧
                ((I49 142 (l3 + l4).toNatClampNeg) ≤ 0 →
                  vp_in ((l3 + 10) + l4) 216 ∧
                  ∀ I52 : IT, I52 = set2 I49 142 ((l3 + 10) + l4).toNatClampNeg 0 →
                  ∀ x53 : Int32, x53 = l4 + 1 →
                  SR g (d + 1) iX11_passes 14 [(0, rf g 129), (2, .int l2), (3, .int l3), (4, .int x53)] I52 X36 (qV K)) ∧
                (¬ (I49 142 (l3 + l4).toNatClampNeg) ≤ 0 →
                  vp_in ((l3 + 10) + l4) 216 ∧
                  ∀ I55 : IT, I55 = set2 I49 142 ((l3 + 10) + l4).toNatClampNeg 1 →
                  ∀ x56 : Int32, x56 = l4 + 1 →
                  SR g (d + 1) iX11_passes 14 [(0, rf g 129), (2, .int l2), (3, .int l3), (4, .int x56)] I55 X36 (qV K)))))))) : SR g (d + 1) iX11_passes 14 [(0, rf g 129), (2, .int l2), (3, .int l3), (4, .int l4)] I X (qV K) := by
  refine r_iload (n := 16) 3 dX11_passes_14 rfl rfl ?_
  refine r_aload_n (n := 17) 0 dX11_passes_16 rfl rfl ?_
  refine rs_getI (n := 20) cls_10 10 fi_10_10 so_129 gw_1036 dX11_passes_17 rfl ?_
  refine r_icmp_ge (n := 23) (tgt := 186) dX11_passes_20 (by decide) rfl (fun c => ?_) (fun c => ?_)
  · have H := H.1 c
    refine r_aload_n (n := 187) 0 dX11_passes_186 rfl rfl ?_
    refine r_getR (n := 190) cls_10 21 fi_10_21 so_129 gw_1047 dX11_passes_187 rfl sr_129_21 (by decide) ?_
    refine r_iload_n (n := 191) 2 dX11_passes_190 rfl rfl ?_
    refine r_bipush (n := 193) (v := 15) dX11_passes_191 kb_15 rfl ?_
    refine r_iadd (n := 194) dX11_passes_193 rfl ?_
    refine r_dup2 (n := 195) dX11_passes_194 rfl rfl rfl ?_
    obtain ⟨hi1, H⟩ := H
    refine rs_iald (n := 196) sa_142 hi1 dX11_passes_195 rfl ?_
    refine r_iconst (n := 197) (v := 1) dX11_passes_196 ki_1 rfl ?_
    refine r_iadd (n := 198) dX11_passes_197 rfl ?_
    obtain ⟨hi2, H⟩ := H
    have H := H _ rfl
    refine rs_iast (n := 199) sa_142 hi2 dX11_passes_198 rfl ?_
    refine r_aload_n (n := 200) 0 dX11_passes_199 rfl rfl ?_
    refine r_getR (n := 203) cls_10 21 fi_10_21 so_129 gw_1047 dX11_passes_200 rfl sr_129_21 (by decide) ?_
    refine r_iload_n (n := 204) 2 dX11_passes_203 rfl rfl ?_
    refine r_bipush (n := 206) (v := 17) dX11_passes_204 kb_17 rfl ?_
    refine r_iadd (n := 207) dX11_passes_206 rfl ?_
    refine r_iconst (n := 208) (v := 0) dX11_passes_207 ki_0 rfl ?_
    obtain ⟨hi4, H⟩ := H
    have H := H _ rfl
    refine rs_iast (n := 209) sa_142 hi4 dX11_passes_208 rfl ?_
    exact rs_vret dX11_passes_209 rfl H
  · have H := H.2 c
    refine r_iload_n (n := 24) 1 dX11_passes_23 rfl rfl ?_
    refine r_iload (n := 26) 3 dX11_passes_24 rfl rfl ?_
    refine rs_cSi (n := 29) (rest := []) (As := [.int _, .int _]) sm_X11_has gw_1336 dX11_passes_26 rfl rfl (Nat.le_of_ble_eq_true rfl) rfl (CI.mono H (fun r6 I7 X8 H => ?_))
    refine r_if_eq (n := 32) (tgt := 120) dX11_passes_29 (by decide) rfl (fun c => ?_) (fun c => ?_)
    · have H := H.1 c
      refine r_iload_n (n := 121) 1 dX11_passes_120 rfl rfl ?_
      refine r_iload (n := 123) 3 dX11_passes_121 rfl rfl ?_
      refine r_iconst (n := 124) (v := 1) dX11_passes_123 ki_1 rfl ?_
      refine r_iadd (n := 125) dX11_passes_124 rfl ?_
      refine rs_cSi (n := 128) (rest := []) (As := [.int _, .int _]) sm_X11_has gw_1336 dX11_passes_125 rfl rfl (Nat.le_of_ble_eq_true rfl) rfl (CI.mono H (fun r9 I10 X11 H => ?_))
      refine r_if_ne (n := 131) (tgt := 147) dX11_passes_128 (by decide) rfl (fun c => ?_) (fun c => ?_)
      · have H := H.1 c
        refine r_aload_n (n := 148) 0 dX11_passes_147 rfl rfl ?_
        refine r_getR (n := 151) cls_10 21 fi_10_21 so_129 gw_1047 dX11_passes_148 rfl sr_129_21 (by decide) ?_
        refine r_iload_n (n := 152) 2 dX11_passes_151 rfl rfl ?_
        refine r_iconst (n := 153) (v := 5) dX11_passes_152 ki_5 rfl ?_
        refine r_iadd (n := 154) dX11_passes_153 rfl ?_
        refine r_iload (n := 156) 3 dX11_passes_154 rfl rfl ?_
        refine r_iadd (n := 157) dX11_passes_156 rfl ?_
        refine r_dup2 (n := 158) dX11_passes_157 rfl rfl rfl ?_
        obtain ⟨hi12, H⟩ := H
        refine rs_iald (n := 159) sa_142 hi12 dX11_passes_158 rfl ?_
        refine r_aload_n (n := 160) 0 dX11_passes_159 rfl rfl ?_
        refine r_getR (n := 163) cls_10 21 fi_10_21 so_129 gw_1047 dX11_passes_160 rfl sr_129_21 (by decide) ?_
        refine r_iload_n (n := 164) 2 dX11_passes_163 rfl rfl ?_
        refine r_iconst (n := 165) (v := 5) dX11_passes_164 ki_5 rfl ?_
        refine r_iadd (n := 166) dX11_passes_165 rfl ?_
        refine r_iload (n := 168) 3 dX11_passes_166 rfl rfl ?_
        refine r_iadd (n := 169) dX11_passes_168 rfl ?_
        obtain ⟨hi13, H⟩ := H
        refine rs_iald (n := 170) sa_142 hi13 dX11_passes_169 rfl ?_
        refine r_if_le (n := 173) (tgt := 177) dX11_passes_170 (by decide) rfl (fun c => ?_) (fun c => ?_)
        · have H := H.1 c
          refine r_iconst (n := 178) (v := 0) dX11_passes_177 ki_0 rfl ?_
          refine r_isub (n := 179) dX11_passes_178 rfl ?_
          obtain ⟨hi14, H⟩ := H
          have H := H _ rfl
          refine rs_iast (n := 180) sa_142 hi14 dX11_passes_179 rfl ?_
          have H := H _ rfl
          refine r_iinc (n := 183) (lv' := [(4, .int _), (0, .ref _), (2, .int _), (3, .int _)]) 3 dX11_passes_180 rfl rfl (by decide) rfl rfl ?_
          refine r_goto (n := 14) dX11_passes_183 (by decide) ?_
          exact r_sub [1, 2, 3, 0] rfl H
        · have H := H.2 c
          refine r_iconst (n := 174) (v := 1) dX11_passes_173 ki_1 rfl ?_
          refine r_goto (n := 178) dX11_passes_174 (by decide) ?_
          refine r_isub (n := 179) dX11_passes_178 rfl ?_
          obtain ⟨hi17, H⟩ := H
          have H := H _ rfl
          refine rs_iast (n := 180) sa_142 hi17 dX11_passes_179 rfl ?_
          have H := H _ rfl
          refine r_iinc (n := 183) (lv' := [(4, .int _), (0, .ref _), (2, .int _), (3, .int _)]) 3 dX11_passes_180 rfl rfl (by decide) rfl rfl ?_
          refine r_goto (n := 14) dX11_passes_183 (by decide) ?_
          exact r_sub [1, 2, 3, 0] rfl H
      · have H := H.2 c
        refine r_iload (n := 133) 3 dX11_passes_131 rfl rfl ?_
        refine r_if_le (n := 136) (tgt := 180) dX11_passes_133 (by decide) rfl (fun c => ?_) (fun c => ?_)
        · have H := H.1 c
          have H := H _ rfl
          refine r_iinc (n := 183) (lv' := [(4, .int _), (0, .ref _), (2, .int _), (3, .int _)]) 3 dX11_passes_180 rfl rfl (by decide) rfl rfl ?_
          refine r_goto (n := 14) dX11_passes_183 (by decide) ?_
          exact r_sub [1, 2, 3, 0] rfl H
        · have H := H.2 c
          refine r_iload_n (n := 137) 1 dX11_passes_136 rfl rfl ?_
          refine r_iload (n := 139) 3 dX11_passes_137 rfl rfl ?_
          refine r_iconst (n := 140) (v := 1) dX11_passes_139 ki_1 rfl ?_
          refine r_isub (n := 141) dX11_passes_140 rfl ?_
          refine rs_cSi (n := 144) (rest := []) (As := [.int _, .int _]) sm_X11_has gw_1336 dX11_passes_141 rfl rfl (Nat.le_of_ble_eq_true rfl) rfl (CI.mono H (fun r21 I22 X23 H => ?_))
          refine r_if_eq (n := 147) (tgt := 180) dX11_passes_144 (by decide) rfl (fun c => ?_) (fun c => ?_)
          · have H := H.1 c
            have H := H _ rfl
            refine r_iinc (n := 183) (lv' := [(4, .int _), (0, .ref _), (2, .int _), (3, .int _)]) 3 dX11_passes_180 rfl rfl (by decide) rfl rfl ?_
            refine r_goto (n := 14) dX11_passes_183 (by decide) ?_
            exact r_sub [1, 2, 3, 0] rfl H
          · have H := H.2 c
            refine r_aload_n (n := 148) 0 dX11_passes_147 rfl rfl ?_
            refine r_getR (n := 151) cls_10 21 fi_10_21 so_129 gw_1047 dX11_passes_148 rfl sr_129_21 (by decide) ?_
            refine r_iload_n (n := 152) 2 dX11_passes_151 rfl rfl ?_
            refine r_iconst (n := 153) (v := 5) dX11_passes_152 ki_5 rfl ?_
            refine r_iadd (n := 154) dX11_passes_153 rfl ?_
            refine r_iload (n := 156) 3 dX11_passes_154 rfl rfl ?_
            refine r_iadd (n := 157) dX11_passes_156 rfl ?_
            refine r_dup2 (n := 158) dX11_passes_157 rfl rfl rfl ?_
            obtain ⟨hi25, H⟩ := H
            refine rs_iald (n := 159) sa_142 hi25 dX11_passes_158 rfl ?_
            refine r_aload_n (n := 160) 0 dX11_passes_159 rfl rfl ?_
            refine r_getR (n := 163) cls_10 21 fi_10_21 so_129 gw_1047 dX11_passes_160 rfl sr_129_21 (by decide) ?_
            refine r_iload_n (n := 164) 2 dX11_passes_163 rfl rfl ?_
            refine r_iconst (n := 165) (v := 5) dX11_passes_164 ki_5 rfl ?_
            refine r_iadd (n := 166) dX11_passes_165 rfl ?_
            refine r_iload (n := 168) 3 dX11_passes_166 rfl rfl ?_
            refine r_iadd (n := 169) dX11_passes_168 rfl ?_
            obtain ⟨hi26, H⟩ := H
            refine rs_iald (n := 170) sa_142 hi26 dX11_passes_169 rfl ?_
            refine r_if_le (n := 173) (tgt := 177) dX11_passes_170 (by decide) rfl (fun c => ?_) (fun c => ?_)
            · have H := H.1 c
              refine r_iconst (n := 178) (v := 0) dX11_passes_177 ki_0 rfl ?_
              refine r_isub (n := 179) dX11_passes_178 rfl ?_
              obtain ⟨hi27, H⟩ := H
              have H := H _ rfl
              refine rs_iast (n := 180) sa_142 hi27 dX11_passes_179 rfl ?_
              have H := H _ rfl
              refine r_iinc (n := 183) (lv' := [(4, .int _), (0, .ref _), (2, .int _), (3, .int _)]) 3 dX11_passes_180 rfl rfl (by decide) rfl rfl ?_
              refine r_goto (n := 14) dX11_passes_183 (by decide) ?_
              exact r_sub [1, 2, 3, 0] rfl H
            · have H := H.2 c
              refine r_iconst (n := 174) (v := 1) dX11_passes_173 ki_1 rfl ?_
              refine r_goto (n := 178) dX11_passes_174 (by decide) ?_
              refine r_isub (n := 179) dX11_passes_178 rfl ?_
              obtain ⟨hi30, H⟩ := H
              have H := H _ rfl
              refine rs_iast (n := 180) sa_142 hi30 dX11_passes_179 rfl ?_
              have H := H _ rfl
              refine r_iinc (n := 183) (lv' := [(4, .int _), (0, .ref _), (2, .int _), (3, .int _)]) 3 dX11_passes_180 rfl rfl (by decide) rfl rfl ?_
              refine r_goto (n := 14) dX11_passes_183 (by decide) ?_
              exact r_sub [1, 2, 3, 0] rfl H
    · have H := H.2 c
      refine r_aload_n (n := 33) 0 dX11_passes_32 rfl rfl ?_
      refine r_iload (n := 35) 3 dX11_passes_33 rfl rfl ?_
      refine r_aload_n (n := 36) 0 dX11_passes_35 rfl rfl ?_
      refine r_getR (n := 39) cls_10 21 fi_10_21 so_129 gw_1047 dX11_passes_36 rfl sr_129_21 (by decide) ?_
      refine r_iload_n (n := 40) 2 dX11_passes_39 rfl rfl ?_
      refine r_bipush (n := 42) (v := 15) dX11_passes_40 kb_15 rfl ?_
      refine r_iadd (n := 43) dX11_passes_42 rfl ?_
      obtain ⟨hi33, H⟩ := H
      refine rs_iald (n := 44) sa_142 hi33 dX11_passes_43 rfl ?_
      refine rs_cVi (n := 47) (rest := []) (As := [.int _, .int _]) vm_X11_takesIn gw_1278 so_129 cq_10 dX11_passes_44 rfl rfl (Nat.le_of_ble_eq_true rfl) rfl (CI.mono H (fun r34 I35 X36 H => ?_))
      refine r_istore (n := 49) (lv' := [(5, .int _), (0, .ref _), (2, .int _), (3, .int _), (4, .int _)]) dX11_passes_47 (by decide) rfl rfl ?_
      refine r_aload_n (n := 50) 1 dX11_passes_49 rfl rfl ?_
      refine r_getR (n := 53) cls_10 21 fi_10_21 so_129 gw_1047 dX11_passes_50 rfl sr_129_21 (by decide) ?_
      refine r_iload_n (n := 54) 3 dX11_passes_53 rfl rfl ?_
      refine r_iload (n := 56) 4 dX11_passes_54 rfl rfl ?_
      refine r_iadd (n := 57) dX11_passes_56 rfl ?_
      refine r_aload_n (n := 58) 1 dX11_passes_57 rfl rfl ?_
      refine r_getR (n := 61) cls_10 21 fi_10_21 so_129 gw_1047 dX11_passes_58 rfl sr_129_21 (by decide) ?_
      refine r_iload_n (n := 62) 3 dX11_passes_61 rfl rfl ?_
      refine r_iload (n := 64) 4 dX11_passes_62 rfl rfl ?_
      refine r_iadd (n := 65) dX11_passes_64 rfl ?_
      obtain ⟨hi37, H⟩ := H
      refine rs_iald (n := 66) sa_142 hi37 dX11_passes_65 rfl ?_
      refine r_iload (n := 68) 0 dX11_passes_66 rfl rfl ?_
      refine r_icmp_le (n := 71) (tgt := 86) dX11_passes_68 (by decide) rfl (fun c => ?_) (fun c => ?_)
      · have H := H.1 c
        refine r_iconst (n := 87) (v := 0) dX11_passes_86 ki_0 rfl ?_
        obtain ⟨hi38, H⟩ := H
        have H := H _ rfl
        refine rs_iast (n := 88) sa_142 hi38 dX11_passes_87 rfl ?_
        refine r_aload_n (n := 89) 1 dX11_passes_88 rfl rfl ?_
        refine r_getR (n := 92) cls_10 21 fi_10_21 so_129 gw_1047 dX11_passes_89 rfl sr_129_21 (by decide) ?_
        refine r_iload_n (n := 93) 3 dX11_passes_92 rfl rfl ?_
        refine r_bipush (n := 95) (v := 10) dX11_passes_93 kb_10 rfl ?_
        refine r_iadd (n := 96) dX11_passes_95 rfl ?_
        refine r_iload (n := 98) 4 dX11_passes_96 rfl rfl ?_
        refine r_iadd (n := 99) dX11_passes_98 rfl ?_
        refine r_aload_n (n := 100) 1 dX11_passes_99 rfl rfl ?_
        refine r_getR (n := 103) cls_10 21 fi_10_21 so_129 gw_1047 dX11_passes_100 rfl sr_129_21 (by decide) ?_
        refine r_iload_n (n := 104) 3 dX11_passes_103 rfl rfl ?_
        refine r_iload (n := 106) 4 dX11_passes_104 rfl rfl ?_
        refine r_iadd (n := 107) dX11_passes_106 rfl ?_
        obtain ⟨hi40, H⟩ := H
        refine rs_iald (n := 108) sa_142 hi40 dX11_passes_107 rfl ?_
        refine r_if_le (n := 111) (tgt := 115) dX11_passes_108 (by decide) rfl (fun c => ?_) (fun c => ?_)
        · have H := H.1 c
          refine r_iconst (n := 116) (v := 0) dX11_passes_115 ki_0 rfl ?_
          obtain ⟨hi41, H⟩ := H
          have H := H _ rfl
          refine rs_iast (n := 117) sa_142 hi41 dX11_passes_116 rfl ?_
          refine r_goto (n := 180) dX11_passes_117 (by decide) ?_
          have H := H _ rfl
          refine r_iinc (n := 183) (lv' := [(4, .int _), (5, .int _), (0, .ref _), (2, .int _), (3, .int _)]) 4 dX11_passes_180 rfl rfl (by decide) rfl rfl ?_
          refine r_goto (n := 14) dX11_passes_183 (by decide) ?_
          exact r_sub [2, 3, 4, 0] rfl H
        · have H := H.2 c
          refine r_iconst (n := 112) (v := 1) dX11_passes_111 ki_1 rfl ?_
          refine r_goto (n := 116) dX11_passes_112 (by decide) ?_
          obtain ⟨hi44, H⟩ := H
          have H := H _ rfl
          refine rs_iast (n := 117) sa_142 hi44 dX11_passes_116 rfl ?_
          refine r_goto (n := 180) dX11_passes_117 (by decide) ?_
          have H := H _ rfl
          refine r_iinc (n := 183) (lv' := [(4, .int _), (5, .int _), (0, .ref _), (2, .int _), (3, .int _)]) 4 dX11_passes_180 rfl rfl (by decide) rfl rfl ?_
          refine r_goto (n := 14) dX11_passes_183 (by decide) ?_
          exact r_sub [2, 3, 4, 0] rfl H
      · have H := H.2 c
        refine r_aload_n (n := 72) 1 dX11_passes_71 rfl rfl ?_
        refine r_getR (n := 75) cls_10 21 fi_10_21 so_129 gw_1047 dX11_passes_72 rfl sr_129_21 (by decide) ?_
        refine r_iload_n (n := 76) 3 dX11_passes_75 rfl rfl ?_
        refine r_iload (n := 78) 4 dX11_passes_76 rfl rfl ?_
        refine r_iadd (n := 79) dX11_passes_78 rfl ?_
        obtain ⟨hi47, H⟩ := H
        refine rs_iald (n := 80) sa_142 hi47 dX11_passes_79 rfl ?_
        refine r_iload (n := 82) 0 dX11_passes_80 rfl rfl ?_
        refine r_isub (n := 83) dX11_passes_82 rfl ?_
        refine r_goto (n := 87) dX11_passes_83 (by decide) ?_
        obtain ⟨hi48, H⟩ := H
        have H := H _ rfl
        refine rs_iast (n := 88) sa_142 hi48 dX11_passes_87 rfl ?_
        refine r_aload_n (n := 89) 1 dX11_passes_88 rfl rfl ?_
        refine r_getR (n := 92) cls_10 21 fi_10_21 so_129 gw_1047 dX11_passes_89 rfl sr_129_21 (by decide) ?_
        refine r_iload_n (n := 93) 3 dX11_passes_92 rfl rfl ?_
        refine r_bipush (n := 95) (v := 10) dX11_passes_93 kb_10 rfl ?_
        refine r_iadd (n := 96) dX11_passes_95 rfl ?_
        refine r_iload (n := 98) 4 dX11_passes_96 rfl rfl ?_
        refine r_iadd (n := 99) dX11_passes_98 rfl ?_
        refine r_aload_n (n := 100) 1 dX11_passes_99 rfl rfl ?_
        refine r_getR (n := 103) cls_10 21 fi_10_21 so_129 gw_1047 dX11_passes_100 rfl sr_129_21 (by decide) ?_
        refine r_iload_n (n := 104) 3 dX11_passes_103 rfl rfl ?_
        refine r_iload (n := 106) 4 dX11_passes_104 rfl rfl ?_
        refine r_iadd (n := 107) dX11_passes_106 rfl ?_
        obtain ⟨hi50, H⟩ := H
        refine rs_iald (n := 108) sa_142 hi50 dX11_passes_107 rfl ?_
        refine r_if_le (n := 111) (tgt := 115) dX11_passes_108 (by decide) rfl (fun c => ?_) (fun c => ?_)
        · have H := H.1 c
          refine r_iconst (n := 116) (v := 0) dX11_passes_115 ki_0 rfl ?_
          obtain ⟨hi51, H⟩ := H
          have H := H _ rfl
          refine rs_iast (n := 117) sa_142 hi51 dX11_passes_116 rfl ?_
          refine r_goto (n := 180) dX11_passes_117 (by decide) ?_
          have H := H _ rfl
          refine r_iinc (n := 183) (lv' := [(4, .int _), (5, .int _), (0, .ref _), (2, .int _), (3, .int _)]) 4 dX11_passes_180 rfl rfl (by decide) rfl rfl ?_
          refine r_goto (n := 14) dX11_passes_183 (by decide) ?_
          exact r_sub [2, 3, 4, 0] rfl H
        · have H := H.2 c
          refine r_iconst (n := 112) (v := 1) dX11_passes_111 ki_1 rfl ?_
          refine r_goto (n := 116) dX11_passes_112 (by decide) ?_
          obtain ⟨hi54, H⟩ := H
          have H := H _ rfl
          refine rs_iast (n := 117) sa_142 hi54 dX11_passes_116 rfl ?_
          refine r_goto (n := 180) dX11_passes_117 (by decide) ?_
          have H := H _ rfl
          refine r_iinc (n := 183) (lv' := [(4, .int _), (5, .int _), (0, .ref _), (2, .int _), (3, .int _)]) 4 dX11_passes_180 rfl rfl (by decide) rfl rfl ?_
          refine r_goto (n := 14) dX11_passes_183 (by decide) ?_
          exact r_sub [2, 3, 4, 0] rfl H
set_option maxRecDepth 20000 in
theorem en_X11_houseTells {g : OG} {d : Nat} {I : IT} {X : XT} {K : Int32 → IT → XT → Prop} {l1 : Int32} {l2 : Int32} 
    (H : (l2 = 0 →
        vp_in l1 5 ∧
        K (I 137 l1.toNatClampNeg) I X) ∧
      (¬ l2 = 0 →
        (l2 = 1 →
        vp_in l1 216 ∧
        K (I 142 l1.toNatClampNeg) I X) ∧
      (¬ l2 = 1 →
        (l2 = 2 →
        vp_in (5 + l1) 216 ∧
        K (I 142 (5 + l1).toNatClampNeg) I X) ∧
      (¬ l2 = 2 →
        (l2 = 3 →
        vp_in l1 5 ∧
        K (I 138 l1.toNatClampNeg) I X) ∧
      (¬ l2 = 3 →
        (l2 = 4 →
        vp_in (10 + l1) 216 ∧
        K (I 142 (10 + l1).toNatClampNeg) I X) ∧
      (¬ l2 = 4 →
        CI g d iX11_isCatching [rf g 129, .int 0, .int l1] I X (fun r11 I12 X13 =>
        (r11 = 0 →
          K 0 I12 X13) ∧
        (¬ r11 = 0 →
          K 1 I12 X13)))))))) : CI g (d + 1) iX11_houseTells [rf g 129, .int l1, .int l2] I X K := by
  refine ocall_of (by decide) (Nat.le_of_ble_eq_true rfl) ?_
  show SR g (d + 1) iX11_houseTells 0 [(0, rf g 129), (1, .int l1), (2, .int l2)] I X (qI K)
  refine r_iload_n (n := 1) 2 dX11_houseTells_0 rfl rfl ?_
  refine sw_split H (fun cs1 H => ?_) (fun cs1 H => ?_)
  · refine r_tcase (n := 36) (v := 0) (off := 35) dX11_houseTells_1 cs1 (by decide) (by decide) (by decide) ?_
    refine r_aload_n (n := 37) 0 dX11_houseTells_36 rfl rfl ?_
    refine r_getR (n := 40) cls_10 13 fi_10_13 so_129 gw_1039 dX11_houseTells_37 rfl sr_129_13 (by decide) ?_
    refine r_iload_n (n := 41) 1 dX11_houseTells_40 rfl rfl ?_
    obtain ⟨hi2, H⟩ := H
    refine rs_iald (n := 42) sa_137 hi2 dX11_houseTells_41 rfl ?_
    exact rs_iret dX11_houseTells_42 rfl H
  · skip
    refine sw_split H (fun cs3 H => ?_) (fun cs3 H => ?_)
    · refine r_tcase (n := 43) (v := 1) (off := 42) dX11_houseTells_1 cs3 (by decide) (by decide) (by decide) ?_
      refine r_aload_n (n := 44) 0 dX11_houseTells_43 rfl rfl ?_
      refine r_getR (n := 47) cls_10 21 fi_10_21 so_129 gw_1047 dX11_houseTells_44 rfl sr_129_21 (by decide) ?_
      refine r_iload_n (n := 48) 1 dX11_houseTells_47 rfl rfl ?_
      obtain ⟨hi4, H⟩ := H
      refine rs_iald (n := 49) sa_142 hi4 dX11_houseTells_48 rfl ?_
      exact rs_iret dX11_houseTells_49 rfl H
    · skip
      refine sw_split H (fun cs5 H => ?_) (fun cs5 H => ?_)
      · refine r_tcase (n := 50) (v := 2) (off := 49) dX11_houseTells_1 cs5 (by decide) (by decide) (by decide) ?_
        refine r_aload_n (n := 51) 0 dX11_houseTells_50 rfl rfl ?_
        refine r_getR (n := 54) cls_10 21 fi_10_21 so_129 gw_1047 dX11_houseTells_51 rfl sr_129_21 (by decide) ?_
        refine r_iconst (n := 55) (v := 5) dX11_houseTells_54 ki_5 rfl ?_
        refine r_iload_n (n := 56) 1 dX11_houseTells_55 rfl rfl ?_
        refine r_iadd (n := 57) dX11_houseTells_56 rfl ?_
        obtain ⟨hi6, H⟩ := H
        refine rs_iald (n := 58) sa_142 hi6 dX11_houseTells_57 rfl ?_
        exact rs_iret dX11_houseTells_58 rfl H
      · skip
        refine sw_split H (fun cs7 H => ?_) (fun cs7 H => ?_)
        · refine r_tcase (n := 59) (v := 3) (off := 58) dX11_houseTells_1 cs7 (by decide) (by decide) (by decide) ?_
          refine r_aload_n (n := 60) 0 dX11_houseTells_59 rfl rfl ?_
          refine r_getR (n := 63) cls_10 14 fi_10_14 so_129 gw_1040 dX11_houseTells_60 rfl sr_129_14 (by decide) ?_
          refine r_iload_n (n := 64) 1 dX11_houseTells_63 rfl rfl ?_
          obtain ⟨hi8, H⟩ := H
          refine rs_iald (n := 65) sa_138 hi8 dX11_houseTells_64 rfl ?_
          exact rs_iret dX11_houseTells_65 rfl H
        · skip
          refine sw_split H (fun cs9 H => ?_) (fun cs9 H => ?_)
          · refine r_tcase (n := 66) (v := 4) (off := 65) dX11_houseTells_1 cs9 (by decide) (by decide) (by decide) ?_
            refine r_aload_n (n := 67) 0 dX11_houseTells_66 rfl rfl ?_
            refine r_getR (n := 70) cls_10 21 fi_10_21 so_129 gw_1047 dX11_houseTells_67 rfl sr_129_21 (by decide) ?_
            refine r_bipush (n := 72) (v := 10) dX11_houseTells_70 kb_10 rfl ?_
            refine r_iload_n (n := 73) 1 dX11_houseTells_72 rfl rfl ?_
            refine r_iadd (n := 74) dX11_houseTells_73 rfl ?_
            obtain ⟨hi10, H⟩ := H
            refine rs_iald (n := 75) sa_142 hi10 dX11_houseTells_74 rfl ?_
            exact rs_iret dX11_houseTells_75 rfl H
          · skip
            refine r_tout (n := 76) dX11_houseTells_1 (by have e0 := lv_neT cs1 (a := 0) (by decide); have e1 := lv_neT cs3 (a := 1) (by decide); have e2 := lv_neT cs5 (a := 2) (by decide); have e3 := lv_neT cs7 (a := 3) (by decide); have e4 := lv_neT cs9 (a := 4) (by decide); omega) (by decide) ?_
            refine r_aload_n (n := 77) 0 dX11_houseTells_76 rfl rfl ?_
            refine r_iconst (n := 78) (v := 0) dX11_houseTells_77 ki_0 rfl ?_
            refine r_iload_n (n := 79) 1 dX11_houseTells_78 rfl rfl ?_
            refine rs_cVi (n := 82) (rest := []) (As := [.int _, .int _]) vm_X11_isCatching gw_1258 so_129 cq_10 dX11_houseTells_79 rfl rfl (Nat.le_of_ble_eq_true rfl) rfl (CI.mono H (fun r11 I12 X13 H => ?_))
            refine r_if_eq (n := 85) (tgt := 89) dX11_houseTells_82 (by decide) rfl (fun c => ?_) (fun c => ?_)
            · have H := H.1 c
              refine r_iconst (n := 90) (v := 0) dX11_houseTells_89 ki_0 rfl ?_
              exact rs_iret dX11_houseTells_90 rfl H
            · have H := H.2 c
              refine r_iconst (n := 86) (v := 1) dX11_houseTells_85 ki_1 rfl ?_
              refine r_goto (n := 90) dX11_houseTells_86 (by decide) ?_
              exact rs_iret dX11_houseTells_90 rfl H
set_option maxRecDepth 20000 in
theorem en_X11_house {g : OG} {d : Nat} {I : IT} {X : XT} {K : Int32 → IT → XT → Prop} {l1 : Int32} {l2 : Int32} 
    (H : CI g d iX11_isHouse [rf g 129, .int l1] I X (fun r1 I2 X3 =>
        (r1 = 0 →
          K ((-1)) I2 X3) ∧
        (¬ r1 = 0 →
          CI g d iX11_in [.int l2, .int 0, .int 5] I2 X3 (fun r4 I5 X6 =>
            (r4 = 0 →
              K ((-1)) I5 X6) ∧
            (¬ r4 = 0 →
              CI g d iX11_houseTells [rf g 129, .int l1, .int l2] I5 X6 (fun r7 I8 X9 =>
                CI g d iX11_tells [rf g 129, .int r7, .int 1] I8 X9 (fun r10 I11 X12 =>
                  K r10 I11 X12))))))) : CI g (d + 1) iX11_house [rf g 129, .int l1, .int l2] I X K := by
  refine ocall_of (by decide) (Nat.le_of_ble_eq_true rfl) ?_
  show SR g (d + 1) iX11_house 0 [(0, rf g 129), (1, .int l1), (2, .int l2)] I X (qI K)
  refine r_aload_n (n := 1) 0 dX11_house_0 rfl rfl ?_
  refine r_iload_n (n := 2) 1 dX11_house_1 rfl rfl ?_
  refine rs_cVi (n := 5) (rest := []) (As := [.int _]) vm_X11_isHouse gw_1250 so_129 cq_10 dX11_house_2 rfl rfl (Nat.le_of_ble_eq_true rfl) rfl (CI.mono H (fun r1 I2 X3 H => ?_))
  refine r_if_eq (n := 8) (tgt := 31) dX11_house_5 (by decide) rfl (fun c => ?_) (fun c => ?_)
  · have H := H.1 c
    refine r_iconst (n := 32) (v := (-1)) dX11_house_31 ki_m1 rfl ?_
    exact rs_iret dX11_house_32 rfl H
  · have H := H.2 c
    refine r_iload_n (n := 9) 2 dX11_house_8 rfl rfl ?_
    refine r_iconst (n := 10) (v := 0) dX11_house_9 ki_0 rfl ?_
    refine r_iconst (n := 11) (v := 5) dX11_house_10 ki_5 rfl ?_
    refine rs_cSi (n := 14) (rest := []) (As := [.int _, .int _, .int _]) sm_X11_in gw_1150 dX11_house_11 rfl rfl (Nat.le_of_ble_eq_true rfl) rfl (CI.mono H (fun r4 I5 X6 H => ?_))
    refine r_if_eq (n := 17) (tgt := 31) dX11_house_14 (by decide) rfl (fun c => ?_) (fun c => ?_)
    · have H := H.1 c
      refine r_iconst (n := 32) (v := (-1)) dX11_house_31 ki_m1 rfl ?_
      exact rs_iret dX11_house_32 rfl H
    · have H := H.2 c
      refine r_aload_n (n := 18) 0 dX11_house_17 rfl rfl ?_
      refine r_aload_n (n := 19) 0 dX11_house_18 rfl rfl ?_
      refine r_iload_n (n := 20) 1 dX11_house_19 rfl rfl ?_
      refine r_iload_n (n := 21) 2 dX11_house_20 rfl rfl ?_
      refine rs_cVi (n := 24) (rest := [.ref _]) (As := [.int _, .int _]) vm_X11_houseTells gw_1254 so_129 cq_10 dX11_house_21 rfl rfl (Nat.le_of_ble_eq_true rfl) rfl (CI.mono H (fun r7 I8 X9 H => ?_))
      refine r_iconst (n := 25) (v := 1) dX11_house_24 ki_1 rfl ?_
      refine rs_cVi (n := 28) (rest := []) (As := [.int _, .int _]) vm_X11_tells gw_1184 so_129 cq_10 dX11_house_25 rfl rfl (Nat.le_of_ble_eq_true rfl) rfl (CI.mono H (fun r10 I11 X12 H => ?_))
      refine r_goto (n := 32) dX11_house_28 (by decide) ?_
      exact rs_iret dX11_house_32 rfl H
set_option maxRecDepth 20000 in
theorem en_X11_wind {g : OG} {d : Nat} {I : IT} {X : XT} {K : Int32 → IT → XT → Prop} {l1 : Int32} 
    (H : CI g d iX11_in [.int l1, .int 0, .int 999] I X (fun r1 I2 X3 =>
        (¬ r1 = 0 →
          (¬ (I2 129 10) = 0 →
            CI g d iX11_windOf [rf g 129, .int l1] I2 X3 (fun r4 I5 X6 =>
              K r4 I5 X6)) ∧
          ((I2 129 10) = 0 →
            K ((-4)) I2 X3)) ∧
        (r1 = 0 →
          K ((-1)) I2 X3))) : CI g (d + 1) iX11_wind [rf g 129, .int l1] I X K := by
  refine ocall_of (by decide) (Nat.le_of_ble_eq_true rfl) ?_
  show SR g (d + 1) iX11_wind 0 [(0, rf g 129), (1, .int l1)] I X (qI K)
  refine r_iload_n (n := 1) 1 dX11_wind_0 rfl rfl ?_
  refine r_iconst (n := 2) (v := 0) dX11_wind_1 ki_0 rfl ?_
  refine r_sipush (n := 5) (v := 999) dX11_wind_2 ks_999 rfl ?_
  refine rs_cSi (n := 8) (rest := []) (As := [.int _, .int _, .int _]) sm_X11_in gw_1150 dX11_wind_5 rfl rfl (Nat.le_of_ble_eq_true rfl) rfl (CI.mono H (fun r1 I2 X3 H => ?_))
  refine r_if_ne (n := 11) (tgt := 15) dX11_wind_8 (by decide) rfl (fun c => ?_) (fun c => ?_)
  · have H := H.1 c
    refine r_aload_n (n := 16) 0 dX11_wind_15 rfl rfl ?_
    refine rs_getI (n := 19) cls_10 10 fi_10_10 so_129 gw_1036 dX11_wind_16 rfl ?_
    refine r_if_ne (n := 22) (tgt := 27) dX11_wind_19 (by decide) rfl (fun c => ?_) (fun c => ?_)
    · have H := H.1 c
      refine r_aload_n (n := 28) 0 dX11_wind_27 rfl rfl ?_
      refine r_iload_n (n := 29) 1 dX11_wind_28 rfl rfl ?_
      refine rs_cVi (n := 32) (rest := []) (As := [.int _]) vm_X11_windOf gw_1266 so_129 cq_10 dX11_wind_29 rfl rfl (Nat.le_of_ble_eq_true rfl) rfl (CI.mono H (fun r4 I5 X6 H => ?_))
      exact rs_iret dX11_wind_32 rfl H
    · have H := H.2 c
      refine r_bipush (n := 24) (v := (-4)) dX11_wind_22 kb_m4 rfl ?_
      refine r_goto (n := 32) dX11_wind_24 (by decide) ?_
      exact rs_iret dX11_wind_32 rfl H
  · have H := H.2 c
    refine r_iconst (n := 12) (v := (-1)) dX11_wind_11 ki_m1 rfl ?_
    refine r_goto (n := 32) dX11_wind_12 (by decide) ?_
    exact rs_iret dX11_wind_32 rfl H
set_option maxRecDepth 20000 in
theorem en_X11_springOf {g : OG} {d : Nat} {I : IT} {X : XT} {K : Int32 → IT → XT → Prop} {l1 : Int32} {l2 : Int32} 
    (H : SR g (d + 1) iX11_springOf 5 [(0, rf g 129), (1, .int l1), (2, .int l2), (3, .int 0), (4, .int 0)] I X (qI K)) : CI g (d + 1) iX11_springOf [rf g 129, .int l1, .int l2] I X K := by
  refine ocall_of (by decide) (Nat.le_of_ble_eq_true rfl) ?_
  show SR g (d + 1) iX11_springOf 0 [(0, rf g 129), (1, .int l1), (2, .int l2)] I X (qI K)
  refine r_iconst (n := 1) (v := 0) dX11_springOf_0 ki_0 rfl ?_
  refine r_istore_n (n := 2) (lv' := [(3, .int _), (0, .ref _), (1, .int _), (2, .int _)]) dX11_springOf_1 rfl (by decide) rfl rfl ?_
  refine r_iconst (n := 3) (v := 0) dX11_springOf_2 ki_0 rfl ?_
  refine r_istore (n := 5) (lv' := [(4, .int _), (3, .int _), (0, .ref _), (1, .int _), (2, .int _)]) dX11_springOf_3 (by decide) rfl rfl ?_
  exact r_sub [2, 3, 4, 1, 0] rfl H
set_option maxRecDepth 20000 in
theorem rg_X11_springOf_5 {g : OG} {d : Nat} {I : IT} {X : XT} {K : Int32 → IT → XT → Prop} {l1 : Int32} {l2 : Int32} {l3 : Int32} {l4 : Int32} 
    (H : (l2 ≤ l4 →
        K l3 I X) ∧
      (¬ l2 ≤ l4 →
        vp_in 15 216 ∧
        CI g d iX11_takesIn [rf g 129, .int l1, .int ((I 142 (15 : Int32).toNatClampNeg) + l4)] I X (fun r2 I3 X4 =>
          ∀ x5 : Int32, x5 = l3 + r2 →
          ∀ x6 : Int32, x6 = l4 + 1 →
          SR g (d + 1) iX11_springOf 5 [(0, rf g 129), (1, .int l1), (2, .int l2), (3, .int x5), (4, .int x6)] I3 X4 (qI K)))) : SR g (d + 1) iX11_springOf 5 [(0, rf g 129), (1, .int l1), (2, .int l2), (3, .int l3), (4, .int l4)] I X (qI K) := by
  refine r_iload (n := 7) 4 dX11_springOf_5 rfl rfl ?_
  refine r_iload_n (n := 8) 2 dX11_springOf_7 rfl rfl ?_
  refine r_icmp_ge (n := 11) (tgt := 35) dX11_springOf_8 (by decide) rfl (fun c => ?_) (fun c => ?_)
  · have H := H.1 c
    refine r_iload_n (n := 36) 3 dX11_springOf_35 rfl rfl ?_
    exact rs_iret dX11_springOf_36 rfl H
  · have H := H.2 c
    refine r_iload_n (n := 12) 3 dX11_springOf_11 rfl rfl ?_
    refine r_aload_n (n := 13) 0 dX11_springOf_12 rfl rfl ?_
    refine r_iload_n (n := 14) 1 dX11_springOf_13 rfl rfl ?_
    refine r_aload_n (n := 15) 0 dX11_springOf_14 rfl rfl ?_
    refine r_getR (n := 18) cls_10 21 fi_10_21 so_129 gw_1047 dX11_springOf_15 rfl sr_129_21 (by decide) ?_
    refine r_bipush (n := 20) (v := 15) dX11_springOf_18 kb_15 rfl ?_
    obtain ⟨hi1, H⟩ := H
    refine rs_iald (n := 21) sa_142 hi1 dX11_springOf_20 rfl ?_
    refine r_iload (n := 23) 4 dX11_springOf_21 rfl rfl ?_
    refine r_iadd (n := 24) dX11_springOf_23 rfl ?_
    refine rs_cVi (n := 27) (rest := [.int _]) (As := [.int _, .int _]) vm_X11_takesIn gw_1278 so_129 cq_10 dX11_springOf_24 rfl rfl (Nat.le_of_ble_eq_true rfl) rfl (CI.mono H (fun r2 I3 X4 H => ?_))
    refine r_iadd (n := 28) dX11_springOf_27 rfl ?_
    have H := H _ rfl
    refine r_istore_n (n := 29) (lv' := [(3, .int _), (0, .ref _), (1, .int _), (2, .int _), (4, .int _)]) dX11_springOf_28 rfl (by decide) rfl rfl ?_
    have H := H _ rfl
    refine r_iinc (n := 32) (lv' := [(4, .int _), (3, .int _), (0, .ref _), (1, .int _), (2, .int _)]) 4 dX11_springOf_29 rfl rfl (by decide) rfl rfl ?_
    refine r_goto (n := 5) dX11_springOf_32 (by decide) ?_
    exact r_sub [2, 3, 4, 1, 0] rfl H
set_option maxRecDepth 20000 in
theorem en_X11_wetBeside {g : OG} {d : Nat} {I : IT} {X : XT} {K : Int32 → IT → XT → Prop} {l1 : Int32} 
    (H : ∀ x1 : Int32, x1 = l1 - 1 →
      SR g (d + 1) iX11_wetBeside 6 [(0, rf g 129), (1, .int l1), (2, .int 0), (3, .int x1)] I X (qI K)) : CI g (d + 1) iX11_wetBeside [rf g 129, .int l1] I X K := by
  refine ocall_of (by decide) (Nat.le_of_ble_eq_true rfl) ?_
  show SR g (d + 1) iX11_wetBeside 0 [(0, rf g 129), (1, .int l1)] I X (qI K)
  refine r_iconst (n := 1) (v := 0) dX11_wetBeside_0 ki_0 rfl ?_
  refine r_istore_n (n := 2) (lv' := [(2, .int _), (0, .ref _), (1, .int _)]) dX11_wetBeside_1 rfl (by decide) rfl rfl ?_
  refine r_iload_n (n := 3) 2 dX11_wetBeside_2 rfl rfl ?_
  refine r_iconst (n := 4) (v := 1) dX11_wetBeside_3 ki_1 rfl ?_
  refine r_isub (n := 5) dX11_wetBeside_4 rfl ?_
  have H := H _ rfl
  refine r_istore_n (n := 6) (lv' := [(3, .int _), (2, .int _), (0, .ref _), (1, .int _)]) dX11_wetBeside_5 rfl (by decide) rfl rfl ?_
  exact r_sub [2, 3, 1, 0] rfl H
set_option maxRecDepth 20000 in
theorem rg_X11_wetBeside_6 {g : OG} {d : Nat} {I : IT} {X : XT} {K : Int32 → IT → XT → Prop} {l1 : Int32} {l2 : Int32} {l3 : Int32} 
    (H : ((l1 + 1) < l3 →
        K l2 I X) ∧
      (¬ (l1 + 1) < l3 →
        CI g d iX11_isHouse [rf g 129, .int l3] I X (fun r1 I2 X3 =>
          (r1 = 0 →
            ∀ x4 : Int32, x4 = l2 + 0 →
            ∀ x5 : Int32, x5 = l3 + 2 →
            SR g (d + 1) iX11_wetBeside 6 [(0, rf g 129), (1, .int l1), (2, .int x4), (3, .int x5)] I2 X3 (qI K)) ∧
          (¬ r1 = 0 →
            vp_in (5 + l3) 216 ∧
            ((I2 142 (5 + l3).toNatClampNeg) ≤ 0 →
              ∀ x7 : Int32, x7 = l2 + 0 →
              ∀ x8 : Int32, x8 = l3 + 2 →
              SR g (d + 1) iX11_wetBeside 6 [(0, rf g 129), (1, .int l1), (2, .int x7), (3, .int x8)] I2 X3 (qI K)) ∧
            (¬ (I2 142 (5 + l3).toNatClampNeg) ≤ 0 →
              ∀ x9 : Int32, x9 = l2 + 1 →
              ∀ x10 : Int32, x10 = l3 + 2 →
              SR g (d + 1) iX11_wetBeside 6 [(0, rf g 129), (1, .int l1), (2, .int x9), (3, .int x10)] I2 X3 (qI K)))))) : SR g (d + 1) iX11_wetBeside 6 [(0, rf g 129), (1, .int l1), (2, .int l2), (3, .int l3)] I X (qI K) := by
  refine r_iload_n (n := 7) 3 dX11_wetBeside_6 rfl rfl ?_
  refine r_iload_n (n := 8) 1 dX11_wetBeside_7 rfl rfl ?_
  refine r_iconst (n := 9) (v := 1) dX11_wetBeside_8 ki_1 rfl ?_
  refine r_iadd (n := 10) dX11_wetBeside_9 rfl ?_
  refine r_icmp_gt (n := 13) (tgt := 46) dX11_wetBeside_10 (by decide) rfl (fun c => ?_) (fun c => ?_)
  · have H := H.1 c
    refine r_iload_n (n := 47) 2 dX11_wetBeside_46 rfl rfl ?_
    exact rs_iret dX11_wetBeside_47 rfl H
  · have H := H.2 c
    refine r_iload_n (n := 14) 2 dX11_wetBeside_13 rfl rfl ?_
    refine r_aload_n (n := 15) 0 dX11_wetBeside_14 rfl rfl ?_
    refine r_iload_n (n := 16) 3 dX11_wetBeside_15 rfl rfl ?_
    refine rs_cVi (n := 19) (rest := [.int _]) (As := [.int _]) vm_X11_isHouse gw_1250 so_129 cq_10 dX11_wetBeside_16 rfl rfl (Nat.le_of_ble_eq_true rfl) rfl (CI.mono H (fun r1 I2 X3 H => ?_))
    refine r_if_eq (n := 22) (tgt := 37) dX11_wetBeside_19 (by decide) rfl (fun c => ?_) (fun c => ?_)
    · have H := H.1 c
      refine r_iconst (n := 38) (v := 0) dX11_wetBeside_37 ki_0 rfl ?_
      refine r_iadd (n := 39) dX11_wetBeside_38 rfl ?_
      have H := H _ rfl
      refine r_istore_n (n := 40) (lv' := [(2, .int _), (0, .ref _), (1, .int _), (3, .int _)]) dX11_wetBeside_39 rfl (by decide) rfl rfl ?_
      have H := H _ rfl
      refine r_iinc (n := 43) (lv' := [(3, .int _), (2, .int _), (0, .ref _), (1, .int _)]) 3 dX11_wetBeside_40 rfl rfl (by decide) rfl rfl ?_
      refine r_goto (n := 6) dX11_wetBeside_43 (by decide) ?_
      exact r_sub [2, 3, 1, 0] rfl H
    · have H := H.2 c
      refine r_aload_n (n := 23) 0 dX11_wetBeside_22 rfl rfl ?_
      refine r_getR (n := 26) cls_10 21 fi_10_21 so_129 gw_1047 dX11_wetBeside_23 rfl sr_129_21 (by decide) ?_
      refine r_iconst (n := 27) (v := 5) dX11_wetBeside_26 ki_5 rfl ?_
      refine r_iload_n (n := 28) 3 dX11_wetBeside_27 rfl rfl ?_
      refine r_iadd (n := 29) dX11_wetBeside_28 rfl ?_
      obtain ⟨hi6, H⟩ := H
      refine rs_iald (n := 30) sa_142 hi6 dX11_wetBeside_29 rfl ?_
      refine r_if_le (n := 33) (tgt := 37) dX11_wetBeside_30 (by decide) rfl (fun c => ?_) (fun c => ?_)
      · have H := H.1 c
        refine r_iconst (n := 38) (v := 0) dX11_wetBeside_37 ki_0 rfl ?_
        refine r_iadd (n := 39) dX11_wetBeside_38 rfl ?_
        have H := H _ rfl
        refine r_istore_n (n := 40) (lv' := [(2, .int _), (0, .ref _), (1, .int _), (3, .int _)]) dX11_wetBeside_39 rfl (by decide) rfl rfl ?_
        have H := H _ rfl
        refine r_iinc (n := 43) (lv' := [(3, .int _), (2, .int _), (0, .ref _), (1, .int _)]) 3 dX11_wetBeside_40 rfl rfl (by decide) rfl rfl ?_
        refine r_goto (n := 6) dX11_wetBeside_43 (by decide) ?_
        exact r_sub [2, 3, 1, 0] rfl H
      · have H := H.2 c
        refine r_iconst (n := 34) (v := 1) dX11_wetBeside_33 ki_1 rfl ?_
        refine r_goto (n := 38) dX11_wetBeside_34 (by decide) ?_
        refine r_iadd (n := 39) dX11_wetBeside_38 rfl ?_
        have H := H _ rfl
        refine r_istore_n (n := 40) (lv' := [(2, .int _), (0, .ref _), (1, .int _), (3, .int _)]) dX11_wetBeside_39 rfl (by decide) rfl rfl ?_
        have H := H _ rfl
        refine r_iinc (n := 43) (lv' := [(3, .int _), (2, .int _), (0, .ref _), (1, .int _)]) 3 dX11_wetBeside_40 rfl rfl (by decide) rfl rfl ?_
        refine r_goto (n := 6) dX11_wetBeside_43 (by decide) ?_
        exact r_sub [2, 3, 1, 0] rfl H
set_option maxRecDepth 20000 in
theorem en_X11_mark {g : OG} {d : Nat} {I : IT} {X : XT} {K : Int32 → IT → XT → Prop} {l1 : Int32} {l2 : Int32} 
    (H : CI g d iX11_isHouse [rf g 129, .int l1] I X (fun r1 I2 X3 =>
        (r1 = 0 →
          K ((-1)) I2 X3) ∧
        (¬ r1 = 0 →
          CI g d iX11_in [.int l2, .int 1, .int 5] I2 X3 (fun r4 I5 X6 =>
            (¬ r4 = 0 →
              vp_in l1 5 ∧
              ∀ x8 : Int32, x8 = I5 137 l1.toNatClampNeg →
              (x8 = l2 →
                (l2 = 1 →
                  CI g d iX11_springOf [rf g 129, .int l1, .int 8] I5 X6 (fun r10 I11 X12 =>
                    K r10 I11 X12)) ∧
                (¬ l2 = 1 →
                  (l2 = 2 →
                  (¬ x8 = 5 →
                    K 2 I5 X6) ∧
                  (x8 = 5 →
                    K 0 I5 X6)) ∧
                (¬ l2 = 2 →
                  (l2 = 3 →
                  vp_in l1 216 ∧
                  K (((I5 142 l1.toNatClampNeg) + 1) / 2) I5 X6) ∧
                (¬ l2 = 3 →
                  (l2 = 4 →
                  vp_in 15 216 ∧
                  K ((4 - ((I5 142 (15 : Int32).toNatClampNeg) - (I5 142 (15 : Int32).toNatClampNeg) / 4 * 4)) - (4 - ((I5 142 (15 : Int32).toNatClampNeg) - (I5 142 (15 : Int32).toNatClampNeg) / 4 * 4)) / 4 * 4) I5 X6) ∧
                (¬ l2 = 4 →
                  CI g d iX11_wetBeside [rf g 129, .int l1] I5 X6 (fun r18 I19 X20 =>
                  K r18 I19 X20)))))) ∧
              (¬ x8 = l2 →
                (¬ l2 = 1 →
                  (¬ l2 = 2 →
                    CI g d iX11_meets [rf g 129, .int 3] I5 X6 (fun r21 I22 X23 =>
                      K r21 I22 X23)) ∧
                  (l2 = 2 →
                    (x8 = 5 →
                      (l2 = 1 →
                        CI g d iX11_springOf [rf g 129, .int l1, .int 8] I5 X6 (fun r25 I26 X27 =>
                          K r25 I26 X27)) ∧
                      (¬ l2 = 1 →
                        (l2 = 2 →
                        (¬ x8 = 5 →
                          K 2 I5 X6) ∧
                        (x8 = 5 →
                          K 0 I5 X6)) ∧
                      (¬ l2 = 2 →
                        (l2 = 3 →
                        vp_in l1 216 ∧
                        K (((I5 142 l1.toNatClampNeg) + 1) / 2) I5 X6) ∧
                      (¬ l2 = 3 →
                        (l2 = 4 →
                        vp_in 15 216 ∧
                        K ((4 - ((I5 142 (15 : Int32).toNatClampNeg) - (I5 142 (15 : Int32).toNatClampNeg) / 4 * 4)) - (4 - ((I5 142 (15 : Int32).toNatClampNeg) - (I5 142 (15 : Int32).toNatClampNeg) / 4 * 4)) / 4 * 4) I5 X6) ∧
                      (¬ l2 = 4 →
                        CI g d iX11_wetBeside [rf g 129, .int l1] I5 X6 (fun r33 I34 X35 =>
                        K r33 I34 X35)))))) ∧
                    (¬ x8 = 5 →
                      CI g d iX11_meets [rf g 129, .int 3] I5 X6 (fun r36 I37 X38 =>
                        K r36 I37 X38)))) ∧
                (l2 = 1 →
                  (x8 = 4 →
                    (l2 = 1 →
                      CI g d iX11_springOf [rf g 129, .int l1, .int 8] I5 X6 (fun r40 I41 X42 =>
                        K r40 I41 X42)) ∧
                    (¬ l2 = 1 →
                      (l2 = 2 →
                      (¬ x8 = 5 →
                        K 2 I5 X6) ∧
                      (x8 = 5 →
                        K 0 I5 X6)) ∧
                    (¬ l2 = 2 →
                      (l2 = 3 →
                      vp_in l1 216 ∧
                      K (((I5 142 l1.toNatClampNeg) + 1) / 2) I5 X6) ∧
                    (¬ l2 = 3 →
                      (l2 = 4 →
                      vp_in 15 216 ∧
                      K ((4 - ((I5 142 (15 : Int32).toNatClampNeg) - (I5 142 (15 : Int32).toNatClampNeg) / 4 * 4)) - (4 - ((I5 142 (15 : Int32).toNatClampNeg) - (I5 142 (15 : Int32).toNatClampNeg) / 4 * 4)) / 4 * 4) I5 X6) ∧
                    (¬ l2 = 4 →
                      CI g d iX11_wetBeside [rf g 129, .int l1] I5 X6 (fun r48 I49 X50 =>
                      K r48 I49 X50)))))) ∧
                  (¬ x8 = 4 →
                    (¬ l2 = 2 →
                      CI g d iX11_meets [rf g 129, .int 3] I5 X6 (fun r51 I52 X53 =>
                        K r51 I52 X53)) ∧
                    (l2 = 2 →
                      (x8 = 5 →
                        (l2 = 1 →
                          CI g d iX11_springOf [rf g 129, .int l1, .int 8] I5 X6 (fun r55 I56 X57 =>
                            K r55 I56 X57)) ∧
                        (¬ l2 = 1 →
                          (l2 = 2 →
                          (¬ x8 = 5 →
                            K 2 I5 X6) ∧
                          (x8 = 5 →
                            K 0 I5 X6)) ∧
                        (¬ l2 = 2 →
                          (l2 = 3 →
                          vp_in l1 216 ∧
                          K (((I5 142 l1.toNatClampNeg) + 1) / 2) I5 X6) ∧
                        (¬ l2 = 3 →
                          (l2 = 4 →
                          vp_in 15 216 ∧
                          K ((4 - ((I5 142 (15 : Int32).toNatClampNeg) - (I5 142 (15 : Int32).toNatClampNeg) / 4 * 4)) - (4 - ((I5 142 (15 : Int32).toNatClampNeg) - (I5 142 (15 : Int32).toNatClampNeg) / 4 * 4)) / 4 * 4) I5 X6) ∧
                        (¬ l2 = 4 →
                          CI g d iX11_wetBeside [rf g 129, .int l1] I5 X6 (fun r63 I64 X65 =>
                          K r63 I64 X65)))))) ∧
                      (¬ x8 = 5 →
                        CI g d iX11_meets [rf g 129, .int 3] I5 X6 (fun r66 I67 X68 =>
                          K r66 I67 X68))))))) ∧
            (r4 = 0 →
              K ((-1)) I5 X6))))) : CI g (d + 1) iX11_mark [rf g 129, .int l1, .int l2] I X K := by
  refine ocall_of (by decide) (Nat.le_of_ble_eq_true rfl) ?_
  show SR g (d + 1) iX11_mark 0 [(0, rf g 129), (1, .int l1), (2, .int l2)] I X (qI K)
  refine r_aload_n (n := 1) 0 dX11_mark_0 rfl rfl ?_
  refine r_iload_n (n := 2) 1 dX11_mark_1 rfl rfl ?_
  refine rs_cVi (n := 5) (rest := []) (As := [.int _]) vm_X11_isHouse gw_1250 so_129 cq_10 dX11_mark_2 rfl rfl (Nat.le_of_ble_eq_true rfl) rfl (CI.mono H (fun r1 I2 X3 H => ?_))
  refine r_if_eq (n := 8) (tgt := 17) dX11_mark_5 (by decide) rfl (fun c => ?_) (fun c => ?_)
  · have H := H.1 c
    refine r_iconst (n := 18) (v := (-1)) dX11_mark_17 ki_m1 rfl ?_
    exact rs_iret dX11_mark_18 rfl H
  · have H := H.2 c
    refine r_iload_n (n := 9) 2 dX11_mark_8 rfl rfl ?_
    refine r_iconst (n := 10) (v := 1) dX11_mark_9 ki_1 rfl ?_
    refine r_iconst (n := 11) (v := 5) dX11_mark_10 ki_5 rfl ?_
    refine rs_cSi (n := 14) (rest := []) (As := [.int _, .int _, .int _]) sm_X11_in gw_1150 dX11_mark_11 rfl rfl (Nat.le_of_ble_eq_true rfl) rfl (CI.mono H (fun r4 I5 X6 H => ?_))
    refine r_if_ne (n := 17) (tgt := 19) dX11_mark_14 (by decide) rfl (fun c => ?_) (fun c => ?_)
    · have H := H.1 c
      refine r_aload_n (n := 20) 0 dX11_mark_19 rfl rfl ?_
      refine r_getR (n := 23) cls_10 13 fi_10_13 so_129 gw_1039 dX11_mark_20 rfl sr_129_13 (by decide) ?_
      refine r_iload_n (n := 24) 1 dX11_mark_23 rfl rfl ?_
      obtain ⟨hi7, H⟩ := H
      refine rs_iald (n := 25) sa_137 hi7 dX11_mark_24 rfl ?_
      have H := H _ rfl
      refine r_istore_n (n := 26) (lv' := [(3, .int _), (0, .ref _), (1, .int _), (2, .int _)]) dX11_mark_25 rfl (by decide) rfl rfl ?_
      refine r_iload_n (n := 27) 0 dX11_mark_26 rfl rfl ?_
      refine r_iload_n (n := 28) 3 dX11_mark_27 rfl rfl ?_
      refine r_icmp_eq (n := 31) (tgt := 57) dX11_mark_28 (by decide) rfl (fun c => ?_) (fun c => ?_)
      · have H := H.1 c
        refine r_iload_n (n := 58) 3 dX11_mark_57 rfl rfl ?_
        refine sw_split H (fun cs9 H => ?_) (fun cs9 H => ?_)
        · refine r_tcase (n := 88) (v := 1) (off := 30) dX11_mark_58 cs9 (by decide) (by decide) (by decide) ?_
          refine r_aload_n (n := 89) 1 dX11_mark_88 rfl rfl ?_
          refine r_iload_n (n := 90) 2 dX11_mark_89 rfl rfl ?_
          refine r_bipush (n := 92) (v := 8) dX11_mark_90 kb_8 rfl ?_
          refine rs_cVi (n := 95) (rest := []) (As := [.int _, .int _]) vm_X11_springOf gw_1274 so_129 cq_10 dX11_mark_92 rfl rfl (Nat.le_of_ble_eq_true rfl) rfl (CI.mono H (fun r10 I11 X12 H => ?_))
          exact rs_iret dX11_mark_95 rfl H
        · skip
          refine sw_split H (fun cs13 H => ?_) (fun cs13 H => ?_)
          · refine r_tcase (n := 96) (v := 2) (off := 38) dX11_mark_58 cs13 (by decide) (by decide) (by decide) ?_
            refine r_iload_n (n := 97) 0 dX11_mark_96 rfl rfl ?_
            refine r_iconst (n := 98) (v := 5) dX11_mark_97 ki_5 rfl ?_
            refine r_icmp_ne (n := 101) (tgt := 105) dX11_mark_98 (by decide) rfl (fun c => ?_) (fun c => ?_)
            · have H := H.1 c
              refine r_iconst (n := 106) (v := 2) dX11_mark_105 ki_2 rfl ?_
              exact rs_iret dX11_mark_106 rfl H
            · have H := H.2 c
              refine r_iconst (n := 102) (v := 0) dX11_mark_101 ki_0 rfl ?_
              refine r_goto (n := 106) dX11_mark_102 (by decide) ?_
              exact rs_iret dX11_mark_106 rfl H
          · skip
            refine sw_split H (fun cs14 H => ?_) (fun cs14 H => ?_)
            · refine r_tcase (n := 107) (v := 3) (off := 49) dX11_mark_58 cs14 (by decide) (by decide) (by decide) ?_
              refine r_aload_n (n := 108) 1 dX11_mark_107 rfl rfl ?_
              refine r_getR (n := 111) cls_10 21 fi_10_21 so_129 gw_1047 dX11_mark_108 rfl sr_129_21 (by decide) ?_
              refine r_iload_n (n := 112) 2 dX11_mark_111 rfl rfl ?_
              obtain ⟨hi15, H⟩ := H
              refine rs_iald (n := 113) sa_142 hi15 dX11_mark_112 rfl ?_
              refine r_iconst (n := 114) (v := 1) dX11_mark_113 ki_1 rfl ?_
              refine r_iadd (n := 115) dX11_mark_114 rfl ?_
              refine r_iconst (n := 116) (v := 2) dX11_mark_115 ki_2 rfl ?_
              refine r_idiv (n := 117) dX11_mark_116 (by decide) rfl ?_
              exact rs_iret dX11_mark_117 rfl H
            · skip
              refine sw_split H (fun cs16 H => ?_) (fun cs16 H => ?_)
              · refine r_tcase (n := 118) (v := 4) (off := 60) dX11_mark_58 cs16 (by decide) (by decide) (by decide) ?_
                refine r_iconst (n := 119) (v := 4) dX11_mark_118 ki_4 rfl ?_
                refine r_aload_n (n := 120) 1 dX11_mark_119 rfl rfl ?_
                refine r_getR (n := 123) cls_10 21 fi_10_21 so_129 gw_1047 dX11_mark_120 rfl sr_129_21 (by decide) ?_
                refine r_bipush (n := 125) (v := 15) dX11_mark_123 kb_15 rfl ?_
                obtain ⟨hi17, H⟩ := H
                refine rs_iald (n := 126) sa_142 hi17 dX11_mark_125 rfl ?_
                refine r_iconst (n := 127) (v := 4) dX11_mark_126 ki_4 rfl ?_
                refine r_irem (n := 128) dX11_mark_127 (by decide) rfl ?_
                refine r_isub (n := 129) dX11_mark_128 rfl ?_
                refine r_iconst (n := 130) (v := 4) dX11_mark_129 ki_4 rfl ?_
                refine r_irem (n := 131) dX11_mark_130 (by decide) rfl ?_
                exact rs_iret dX11_mark_131 rfl H
              · skip
                refine r_tout (n := 132) dX11_mark_58 (by have e0 := lv_neT cs9 (a := 1) (by decide); have e1 := lv_neT cs13 (a := 2) (by decide); have e2 := lv_neT cs14 (a := 3) (by decide); have e3 := lv_neT cs16 (a := 4) (by decide); omega) (by decide) ?_
                refine r_aload_n (n := 133) 1 dX11_mark_132 rfl rfl ?_
                refine r_iload_n (n := 134) 2 dX11_mark_133 rfl rfl ?_
                refine rs_cVi (n := 137) (rest := []) (As := [.int _]) vm_X11_wetBeside gw_1282 so_129 cq_10 dX11_mark_134 rfl rfl (Nat.le_of_ble_eq_true rfl) rfl (CI.mono H (fun r18 I19 X20 H => ?_))
                exact rs_iret dX11_mark_137 rfl H
      · have H := H.2 c
        refine r_iload_n (n := 32) 3 dX11_mark_31 rfl rfl ?_
        refine r_iconst (n := 33) (v := 1) dX11_mark_32 ki_1 rfl ?_
        refine r_icmp_ne (n := 36) (tgt := 41) dX11_mark_33 (by decide) rfl (fun c => ?_) (fun c => ?_)
        · have H := H.1 c
          refine r_iload_n (n := 42) 3 dX11_mark_41 rfl rfl ?_
          refine r_iconst (n := 43) (v := 2) dX11_mark_42 ki_2 rfl ?_
          refine r_icmp_ne (n := 46) (tgt := 51) dX11_mark_43 (by decide) rfl (fun c => ?_) (fun c => ?_)
          · have H := H.1 c
            refine r_aload_n (n := 52) 1 dX11_mark_51 rfl rfl ?_
            refine r_iconst (n := 53) (v := 3) dX11_mark_52 ki_3 rfl ?_
            refine rs_cVi (n := 56) (rest := []) (As := [.int _]) vm_X11_meets gw_1172 so_129 cq_10 dX11_mark_53 rfl rfl (Nat.le_of_ble_eq_true rfl) rfl (CI.mono H (fun r21 I22 X23 H => ?_))
            exact rs_iret dX11_mark_56 rfl H
          · have H := H.2 c
            refine r_iload_n (n := 47) 0 dX11_mark_46 rfl rfl ?_
            refine r_iconst (n := 48) (v := 5) dX11_mark_47 ki_5 rfl ?_
            refine r_icmp_eq (n := 51) (tgt := 57) dX11_mark_48 (by decide) rfl (fun c => ?_) (fun c => ?_)
            · have H := H.1 c
              refine r_iload_n (n := 58) 3 dX11_mark_57 rfl rfl ?_
              refine sw_split H (fun cs24 H => ?_) (fun cs24 H => ?_)
              · refine r_tcase (n := 88) (v := 1) (off := 30) dX11_mark_58 cs24 (by decide) (by decide) (by decide) ?_
                refine r_aload_n (n := 89) 1 dX11_mark_88 rfl rfl ?_
                refine r_iload_n (n := 90) 2 dX11_mark_89 rfl rfl ?_
                refine r_bipush (n := 92) (v := 8) dX11_mark_90 kb_8 rfl ?_
                refine rs_cVi (n := 95) (rest := []) (As := [.int _, .int _]) vm_X11_springOf gw_1274 so_129 cq_10 dX11_mark_92 rfl rfl (Nat.le_of_ble_eq_true rfl) rfl (CI.mono H (fun r25 I26 X27 H => ?_))
                exact rs_iret dX11_mark_95 rfl H
              · skip
                refine sw_split H (fun cs28 H => ?_) (fun cs28 H => ?_)
                · refine r_tcase (n := 96) (v := 2) (off := 38) dX11_mark_58 cs28 (by decide) (by decide) (by decide) ?_
                  refine r_iload_n (n := 97) 0 dX11_mark_96 rfl rfl ?_
                  refine r_iconst (n := 98) (v := 5) dX11_mark_97 ki_5 rfl ?_
                  refine r_icmp_ne (n := 101) (tgt := 105) dX11_mark_98 (by decide) rfl (fun c => ?_) (fun c => ?_)
                  · have H := H.1 c
                    refine r_iconst (n := 106) (v := 2) dX11_mark_105 ki_2 rfl ?_
                    exact rs_iret dX11_mark_106 rfl H
                  · have H := H.2 c
                    refine r_iconst (n := 102) (v := 0) dX11_mark_101 ki_0 rfl ?_
                    refine r_goto (n := 106) dX11_mark_102 (by decide) ?_
                    exact rs_iret dX11_mark_106 rfl H
                · skip
                  refine sw_split H (fun cs29 H => ?_) (fun cs29 H => ?_)
                  · refine r_tcase (n := 107) (v := 3) (off := 49) dX11_mark_58 cs29 (by decide) (by decide) (by decide) ?_
                    refine r_aload_n (n := 108) 1 dX11_mark_107 rfl rfl ?_
                    refine r_getR (n := 111) cls_10 21 fi_10_21 so_129 gw_1047 dX11_mark_108 rfl sr_129_21 (by decide) ?_
                    refine r_iload_n (n := 112) 2 dX11_mark_111 rfl rfl ?_
                    obtain ⟨hi30, H⟩ := H
                    refine rs_iald (n := 113) sa_142 hi30 dX11_mark_112 rfl ?_
                    refine r_iconst (n := 114) (v := 1) dX11_mark_113 ki_1 rfl ?_
                    refine r_iadd (n := 115) dX11_mark_114 rfl ?_
                    refine r_iconst (n := 116) (v := 2) dX11_mark_115 ki_2 rfl ?_
                    refine r_idiv (n := 117) dX11_mark_116 (by decide) rfl ?_
                    exact rs_iret dX11_mark_117 rfl H
                  · skip
                    refine sw_split H (fun cs31 H => ?_) (fun cs31 H => ?_)
                    · refine r_tcase (n := 118) (v := 4) (off := 60) dX11_mark_58 cs31 (by decide) (by decide) (by decide) ?_
                      refine r_iconst (n := 119) (v := 4) dX11_mark_118 ki_4 rfl ?_
                      refine r_aload_n (n := 120) 1 dX11_mark_119 rfl rfl ?_
                      refine r_getR (n := 123) cls_10 21 fi_10_21 so_129 gw_1047 dX11_mark_120 rfl sr_129_21 (by decide) ?_
                      refine r_bipush (n := 125) (v := 15) dX11_mark_123 kb_15 rfl ?_
                      obtain ⟨hi32, H⟩ := H
                      refine rs_iald (n := 126) sa_142 hi32 dX11_mark_125 rfl ?_
                      refine r_iconst (n := 127) (v := 4) dX11_mark_126 ki_4 rfl ?_
                      refine r_irem (n := 128) dX11_mark_127 (by decide) rfl ?_
                      refine r_isub (n := 129) dX11_mark_128 rfl ?_
                      refine r_iconst (n := 130) (v := 4) dX11_mark_129 ki_4 rfl ?_
                      refine r_irem (n := 131) dX11_mark_130 (by decide) rfl ?_
                      exact rs_iret dX11_mark_131 rfl H
                    · skip
                      refine r_tout (n := 132) dX11_mark_58 (by have e0 := lv_neT cs24 (a := 1) (by decide); have e1 := lv_neT cs28 (a := 2) (by decide); have e2 := lv_neT cs29 (a := 3) (by decide); have e3 := lv_neT cs31 (a := 4) (by decide); omega) (by decide) ?_
                      refine r_aload_n (n := 133) 1 dX11_mark_132 rfl rfl ?_
                      refine r_iload_n (n := 134) 2 dX11_mark_133 rfl rfl ?_
                      refine rs_cVi (n := 137) (rest := []) (As := [.int _]) vm_X11_wetBeside gw_1282 so_129 cq_10 dX11_mark_134 rfl rfl (Nat.le_of_ble_eq_true rfl) rfl (CI.mono H (fun r33 I34 X35 H => ?_))
                      exact rs_iret dX11_mark_137 rfl H
            · have H := H.2 c
              refine r_aload_n (n := 52) 1 dX11_mark_51 rfl rfl ?_
              refine r_iconst (n := 53) (v := 3) dX11_mark_52 ki_3 rfl ?_
              refine rs_cVi (n := 56) (rest := []) (As := [.int _]) vm_X11_meets gw_1172 so_129 cq_10 dX11_mark_53 rfl rfl (Nat.le_of_ble_eq_true rfl) rfl (CI.mono H (fun r36 I37 X38 H => ?_))
              exact rs_iret dX11_mark_56 rfl H
        · have H := H.2 c
          refine r_iload_n (n := 37) 0 dX11_mark_36 rfl rfl ?_
          refine r_iconst (n := 38) (v := 4) dX11_mark_37 ki_4 rfl ?_
          refine r_icmp_eq (n := 41) (tgt := 57) dX11_mark_38 (by decide) rfl (fun c => ?_) (fun c => ?_)
          · have H := H.1 c
            refine r_iload_n (n := 58) 3 dX11_mark_57 rfl rfl ?_
            refine sw_split H (fun cs39 H => ?_) (fun cs39 H => ?_)
            · refine r_tcase (n := 88) (v := 1) (off := 30) dX11_mark_58 cs39 (by decide) (by decide) (by decide) ?_
              refine r_aload_n (n := 89) 1 dX11_mark_88 rfl rfl ?_
              refine r_iload_n (n := 90) 2 dX11_mark_89 rfl rfl ?_
              refine r_bipush (n := 92) (v := 8) dX11_mark_90 kb_8 rfl ?_
              refine rs_cVi (n := 95) (rest := []) (As := [.int _, .int _]) vm_X11_springOf gw_1274 so_129 cq_10 dX11_mark_92 rfl rfl (Nat.le_of_ble_eq_true rfl) rfl (CI.mono H (fun r40 I41 X42 H => ?_))
              exact rs_iret dX11_mark_95 rfl H
            · skip
              refine sw_split H (fun cs43 H => ?_) (fun cs43 H => ?_)
              · refine r_tcase (n := 96) (v := 2) (off := 38) dX11_mark_58 cs43 (by decide) (by decide) (by decide) ?_
                refine r_iload_n (n := 97) 0 dX11_mark_96 rfl rfl ?_
                refine r_iconst (n := 98) (v := 5) dX11_mark_97 ki_5 rfl ?_
                refine r_icmp_ne (n := 101) (tgt := 105) dX11_mark_98 (by decide) rfl (fun c => ?_) (fun c => ?_)
                · have H := H.1 c
                  refine r_iconst (n := 106) (v := 2) dX11_mark_105 ki_2 rfl ?_
                  exact rs_iret dX11_mark_106 rfl H
                · have H := H.2 c
                  refine r_iconst (n := 102) (v := 0) dX11_mark_101 ki_0 rfl ?_
                  refine r_goto (n := 106) dX11_mark_102 (by decide) ?_
                  exact rs_iret dX11_mark_106 rfl H
              · skip
                refine sw_split H (fun cs44 H => ?_) (fun cs44 H => ?_)
                · refine r_tcase (n := 107) (v := 3) (off := 49) dX11_mark_58 cs44 (by decide) (by decide) (by decide) ?_
                  refine r_aload_n (n := 108) 1 dX11_mark_107 rfl rfl ?_
                  refine r_getR (n := 111) cls_10 21 fi_10_21 so_129 gw_1047 dX11_mark_108 rfl sr_129_21 (by decide) ?_
                  refine r_iload_n (n := 112) 2 dX11_mark_111 rfl rfl ?_
                  obtain ⟨hi45, H⟩ := H
                  refine rs_iald (n := 113) sa_142 hi45 dX11_mark_112 rfl ?_
                  refine r_iconst (n := 114) (v := 1) dX11_mark_113 ki_1 rfl ?_
                  refine r_iadd (n := 115) dX11_mark_114 rfl ?_
                  refine r_iconst (n := 116) (v := 2) dX11_mark_115 ki_2 rfl ?_
                  refine r_idiv (n := 117) dX11_mark_116 (by decide) rfl ?_
                  exact rs_iret dX11_mark_117 rfl H
                · skip
                  refine sw_split H (fun cs46 H => ?_) (fun cs46 H => ?_)
                  · refine r_tcase (n := 118) (v := 4) (off := 60) dX11_mark_58 cs46 (by decide) (by decide) (by decide) ?_
                    refine r_iconst (n := 119) (v := 4) dX11_mark_118 ki_4 rfl ?_
                    refine r_aload_n (n := 120) 1 dX11_mark_119 rfl rfl ?_
                    refine r_getR (n := 123) cls_10 21 fi_10_21 so_129 gw_1047 dX11_mark_120 rfl sr_129_21 (by decide) ?_
                    refine r_bipush (n := 125) (v := 15) dX11_mark_123 kb_15 rfl ?_
                    obtain ⟨hi47, H⟩ := H
                    refine rs_iald (n := 126) sa_142 hi47 dX11_mark_125 rfl ?_
                    refine r_iconst (n := 127) (v := 4) dX11_mark_126 ki_4 rfl ?_
                    refine r_irem (n := 128) dX11_mark_127 (by decide) rfl ?_
                    refine r_isub (n := 129) dX11_mark_128 rfl ?_
                    refine r_iconst (n := 130) (v := 4) dX11_mark_129 ki_4 rfl ?_
                    refine r_irem (n := 131) dX11_mark_130 (by decide) rfl ?_
                    exact rs_iret dX11_mark_131 rfl H
                  · skip
                    refine r_tout (n := 132) dX11_mark_58 (by have e0 := lv_neT cs39 (a := 1) (by decide); have e1 := lv_neT cs43 (a := 2) (by decide); have e2 := lv_neT cs44 (a := 3) (by decide); have e3 := lv_neT cs46 (a := 4) (by decide); omega) (by decide) ?_
                    refine r_aload_n (n := 133) 1 dX11_mark_132 rfl rfl ?_
                    refine r_iload_n (n := 134) 2 dX11_mark_133 rfl rfl ?_
                    refine rs_cVi (n := 137) (rest := []) (As := [.int _]) vm_X11_wetBeside gw_1282 so_129 cq_10 dX11_mark_134 rfl rfl (Nat.le_of_ble_eq_true rfl) rfl (CI.mono H (fun r48 I49 X50 H => ?_))
                    exact rs_iret dX11_mark_137 rfl H
          · have H := H.2 c
            refine r_iload_n (n := 42) 3 dX11_mark_41 rfl rfl ?_
            refine r_iconst (n := 43) (v := 2) dX11_mark_42 ki_2 rfl ?_
            refine r_icmp_ne (n := 46) (tgt := 51) dX11_mark_43 (by decide) rfl (fun c => ?_) (fun c => ?_)
            · have H := H.1 c
              refine r_aload_n (n := 52) 1 dX11_mark_51 rfl rfl ?_
              refine r_iconst (n := 53) (v := 3) dX11_mark_52 ki_3 rfl ?_
              refine rs_cVi (n := 56) (rest := []) (As := [.int _]) vm_X11_meets gw_1172 so_129 cq_10 dX11_mark_53 rfl rfl (Nat.le_of_ble_eq_true rfl) rfl (CI.mono H (fun r51 I52 X53 H => ?_))
              exact rs_iret dX11_mark_56 rfl H
            · have H := H.2 c
              refine r_iload_n (n := 47) 0 dX11_mark_46 rfl rfl ?_
              refine r_iconst (n := 48) (v := 5) dX11_mark_47 ki_5 rfl ?_
              refine r_icmp_eq (n := 51) (tgt := 57) dX11_mark_48 (by decide) rfl (fun c => ?_) (fun c => ?_)
              · have H := H.1 c
                refine r_iload_n (n := 58) 3 dX11_mark_57 rfl rfl ?_
                refine sw_split H (fun cs54 H => ?_) (fun cs54 H => ?_)
                · refine r_tcase (n := 88) (v := 1) (off := 30) dX11_mark_58 cs54 (by decide) (by decide) (by decide) ?_
                  refine r_aload_n (n := 89) 1 dX11_mark_88 rfl rfl ?_
                  refine r_iload_n (n := 90) 2 dX11_mark_89 rfl rfl ?_
                  refine r_bipush (n := 92) (v := 8) dX11_mark_90 kb_8 rfl ?_
                  refine rs_cVi (n := 95) (rest := []) (As := [.int _, .int _]) vm_X11_springOf gw_1274 so_129 cq_10 dX11_mark_92 rfl rfl (Nat.le_of_ble_eq_true rfl) rfl (CI.mono H (fun r55 I56 X57 H => ?_))
                  exact rs_iret dX11_mark_95 rfl H
                · skip
                  refine sw_split H (fun cs58 H => ?_) (fun cs58 H => ?_)
                  · refine r_tcase (n := 96) (v := 2) (off := 38) dX11_mark_58 cs58 (by decide) (by decide) (by decide) ?_
                    refine r_iload_n (n := 97) 0 dX11_mark_96 rfl rfl ?_
                    refine r_iconst (n := 98) (v := 5) dX11_mark_97 ki_5 rfl ?_
                    refine r_icmp_ne (n := 101) (tgt := 105) dX11_mark_98 (by decide) rfl (fun c => ?_) (fun c => ?_)
                    · have H := H.1 c
                      refine r_iconst (n := 106) (v := 2) dX11_mark_105 ki_2 rfl ?_
                      exact rs_iret dX11_mark_106 rfl H
                    · have H := H.2 c
                      refine r_iconst (n := 102) (v := 0) dX11_mark_101 ki_0 rfl ?_
                      refine r_goto (n := 106) dX11_mark_102 (by decide) ?_
                      exact rs_iret dX11_mark_106 rfl H
                  · skip
                    refine sw_split H (fun cs59 H => ?_) (fun cs59 H => ?_)
                    · refine r_tcase (n := 107) (v := 3) (off := 49) dX11_mark_58 cs59 (by decide) (by decide) (by decide) ?_
                      refine r_aload_n (n := 108) 1 dX11_mark_107 rfl rfl ?_
                      refine r_getR (n := 111) cls_10 21 fi_10_21 so_129 gw_1047 dX11_mark_108 rfl sr_129_21 (by decide) ?_
                      refine r_iload_n (n := 112) 2 dX11_mark_111 rfl rfl ?_
                      obtain ⟨hi60, H⟩ := H
                      refine rs_iald (n := 113) sa_142 hi60 dX11_mark_112 rfl ?_
                      refine r_iconst (n := 114) (v := 1) dX11_mark_113 ki_1 rfl ?_
                      refine r_iadd (n := 115) dX11_mark_114 rfl ?_
                      refine r_iconst (n := 116) (v := 2) dX11_mark_115 ki_2 rfl ?_
                      refine r_idiv (n := 117) dX11_mark_116 (by decide) rfl ?_
                      exact rs_iret dX11_mark_117 rfl H
                    · skip
                      refine sw_split H (fun cs61 H => ?_) (fun cs61 H => ?_)
                      · refine r_tcase (n := 118) (v := 4) (off := 60) dX11_mark_58 cs61 (by decide) (by decide) (by decide) ?_
                        refine r_iconst (n := 119) (v := 4) dX11_mark_118 ki_4 rfl ?_
                        refine r_aload_n (n := 120) 1 dX11_mark_119 rfl rfl ?_
                        refine r_getR (n := 123) cls_10 21 fi_10_21 so_129 gw_1047 dX11_mark_120 rfl sr_129_21 (by decide) ?_
                        refine r_bipush (n := 125) (v := 15) dX11_mark_123 kb_15 rfl ?_
                        obtain ⟨hi62, H⟩ := H
                        refine rs_iald (n := 126) sa_142 hi62 dX11_mark_125 rfl ?_
                        refine r_iconst (n := 127) (v := 4) dX11_mark_126 ki_4 rfl ?_
                        refine r_irem (n := 128) dX11_mark_127 (by decide) rfl ?_
                        refine r_isub (n := 129) dX11_mark_128 rfl ?_
                        refine r_iconst (n := 130) (v := 4) dX11_mark_129 ki_4 rfl ?_
                        refine r_irem (n := 131) dX11_mark_130 (by decide) rfl ?_
                        exact rs_iret dX11_mark_131 rfl H
                      · skip
                        refine r_tout (n := 132) dX11_mark_58 (by have e0 := lv_neT cs54 (a := 1) (by decide); have e1 := lv_neT cs58 (a := 2) (by decide); have e2 := lv_neT cs59 (a := 3) (by decide); have e3 := lv_neT cs61 (a := 4) (by decide); omega) (by decide) ?_
                        refine r_aload_n (n := 133) 1 dX11_mark_132 rfl rfl ?_
                        refine r_iload_n (n := 134) 2 dX11_mark_133 rfl rfl ?_
                        refine rs_cVi (n := 137) (rest := []) (As := [.int _]) vm_X11_wetBeside gw_1282 so_129 cq_10 dX11_mark_134 rfl rfl (Nat.le_of_ble_eq_true rfl) rfl (CI.mono H (fun r63 I64 X65 H => ?_))
                        exact rs_iret dX11_mark_137 rfl H
              · have H := H.2 c
                refine r_aload_n (n := 52) 1 dX11_mark_51 rfl rfl ?_
                refine r_iconst (n := 53) (v := 3) dX11_mark_52 ki_3 rfl ?_
                refine rs_cVi (n := 56) (rest := []) (As := [.int _]) vm_X11_meets gw_1172 so_129 cq_10 dX11_mark_53 rfl rfl (Nat.le_of_ble_eq_true rfl) rfl (CI.mono H (fun r66 I67 X68 H => ?_))
                exact rs_iret dX11_mark_56 rfl H
    · have H := H.2 c
      refine r_iconst (n := 18) (v := (-1)) dX11_mark_17 ki_m1 rfl ?_
      exact rs_iret dX11_mark_18 rfl H
set_option maxRecDepth 20000 in
theorem en_X11_stack {g : OG} {d : Nat} {I : IT} {X : XT} {K : Int32 → IT → XT → Prop} {l1 : Int32} {l2 : Int32} 
    (H : CI g d iX11_isHouse [rf g 129, .int l1] I X (fun r1 I2 X3 =>
        (r1 = 0 →
          K ((-1)) I2 X3) ∧
        (¬ r1 = 0 →
          CI g d iX11_in [.int l2, .int 0, .int 9] I2 X3 (fun r4 I5 X6 =>
            (¬ r4 = 0 →
              ((I5 129 22) ≤ 0 →
                vp_in l1 216 ∧
                ∀ x8 : Int32, x8 = I5 142 l1.toNatClampNeg →
                vp_in l1 216 ∧
                ∀ I10 : IT, I10 = set2 I5 142 l1.toNatClampNeg l2 →
                vp_in l1 18 ∧
                ∀ I12 : IT, I12 = set2 I10 141 l1.toNatClampNeg l2 →
                K x8 I12 X6) ∧
              (¬ (I5 129 22) ≤ 0 →
                K ((-4)) I5 X6)) ∧
            (r4 = 0 →
              K ((-1)) I5 X6))))) : CI g (d + 1) iX11_stack [rf g 129, .int l1, .int l2] I X K := by
  refine ocall_of (by decide) (Nat.le_of_ble_eq_true rfl) ?_
  show SR g (d + 1) iX11_stack 0 [(0, rf g 129), (1, .int l1), (2, .int l2)] I X (qI K)
  refine r_aload_n (n := 1) 0 dX11_stack_0 rfl rfl ?_
  refine r_iload_n (n := 2) 1 dX11_stack_1 rfl rfl ?_
  refine rs_cVi (n := 5) (rest := []) (As := [.int _]) vm_X11_isHouse gw_1250 so_129 cq_10 dX11_stack_2 rfl rfl (Nat.le_of_ble_eq_true rfl) rfl (CI.mono H (fun r1 I2 X3 H => ?_))
  refine r_if_eq (n := 8) (tgt := 18) dX11_stack_5 (by decide) rfl (fun c => ?_) (fun c => ?_)
  · have H := H.1 c
    refine r_iconst (n := 19) (v := (-1)) dX11_stack_18 ki_m1 rfl ?_
    exact rs_iret dX11_stack_19 rfl H
  · have H := H.2 c
    refine r_iload_n (n := 9) 2 dX11_stack_8 rfl rfl ?_
    refine r_iconst (n := 10) (v := 0) dX11_stack_9 ki_0 rfl ?_
    refine r_bipush (n := 12) (v := 9) dX11_stack_10 kb_9 rfl ?_
    refine rs_cSi (n := 15) (rest := []) (As := [.int _, .int _, .int _]) sm_X11_in gw_1150 dX11_stack_12 rfl rfl (Nat.le_of_ble_eq_true rfl) rfl (CI.mono H (fun r4 I5 X6 H => ?_))
    refine r_if_ne (n := 18) (tgt := 20) dX11_stack_15 (by decide) rfl (fun c => ?_) (fun c => ?_)
    · have H := H.1 c
      refine r_aload_n (n := 21) 0 dX11_stack_20 rfl rfl ?_
      refine rs_getI (n := 24) cls_10 22 fi_10_22 so_129 gw_1048 dX11_stack_21 rfl ?_
      refine r_if_le (n := 27) (tgt := 30) dX11_stack_24 (by decide) rfl (fun c => ?_) (fun c => ?_)
      · have H := H.1 c
        refine r_aload_n (n := 31) 0 dX11_stack_30 rfl rfl ?_
        refine r_getR (n := 34) cls_10 21 fi_10_21 so_129 gw_1047 dX11_stack_31 rfl sr_129_21 (by decide) ?_
        refine r_iload_n (n := 35) 1 dX11_stack_34 rfl rfl ?_
        obtain ⟨hi7, H⟩ := H
        refine rs_iald (n := 36) sa_142 hi7 dX11_stack_35 rfl ?_
        have H := H _ rfl
        refine r_istore_n (n := 37) (lv' := [(3, .int _), (0, .ref _), (1, .int _), (2, .int _)]) dX11_stack_36 rfl (by decide) rfl rfl ?_
        refine r_aload_n (n := 38) 1 dX11_stack_37 rfl rfl ?_
        refine r_getR (n := 41) cls_10 21 fi_10_21 so_129 gw_1047 dX11_stack_38 rfl sr_129_21 (by decide) ?_
        refine r_iload_n (n := 42) 2 dX11_stack_41 rfl rfl ?_
        refine r_iload_n (n := 43) 3 dX11_stack_42 rfl rfl ?_
        obtain ⟨hi9, H⟩ := H
        have H := H _ rfl
        refine rs_iast (n := 44) sa_142 hi9 dX11_stack_43 rfl ?_
        refine r_aload_n (n := 45) 1 dX11_stack_44 rfl rfl ?_
        refine r_getR (n := 48) cls_10 20 fi_10_20 so_129 gw_1046 dX11_stack_45 rfl sr_129_20 (by decide) ?_
        refine r_iload_n (n := 49) 2 dX11_stack_48 rfl rfl ?_
        refine r_iload_n (n := 50) 3 dX11_stack_49 rfl rfl ?_
        obtain ⟨hi11, H⟩ := H
        have H := H _ rfl
        refine rs_iast (n := 51) sa_141 hi11 dX11_stack_50 rfl ?_
        refine r_iload_n (n := 52) 0 dX11_stack_51 rfl rfl ?_
        exact rs_iret dX11_stack_52 rfl H
      · have H := H.2 c
        refine r_bipush (n := 29) (v := (-4)) dX11_stack_27 kb_m4 rfl ?_
        exact rs_iret dX11_stack_29 rfl H
    · have H := H.2 c
      refine r_iconst (n := 19) (v := (-1)) dX11_stack_18 ki_m1 rfl ?_
      exact rs_iret dX11_stack_19 rfl H
set_option maxRecDepth 20000 in
theorem en_X11_remember {g : OG} {d : Nat} {I : IT} {X : XT} {K : IT → XT → Prop}  
    (H : SR g (d + 1) iX11_remember 2 [(0, rf g 129), (1, .int 0)] I X (qV K)) : CV g (d + 1) iX11_remember [rf g 129] I X K := by
  refine ocall_of (by decide) (Nat.le_of_ble_eq_true rfl) ?_
  show SR g (d + 1) iX11_remember 0 [(0, rf g 129)] I X (qV K)
  refine r_iconst (n := 1) (v := 0) dX11_remember_0 ki_0 rfl ?_
  refine r_istore_n (n := 2) (lv' := [(1, .int _), (0, .ref _)]) dX11_remember_1 rfl (by decide) rfl rfl ?_
  exact r_sub [1, 0] rfl H
set_option maxRecDepth 20000 in
theorem rg_X11_remember_2 {g : OG} {d : Nat} {I : IT} {X : XT} {K : IT → XT → Prop} {l1 : Int32} 
    (H : (18 ≤ l1 →
        ∀ I1 : IT, I1 = set2 I 129 22 ((I 129 22) + 1) →
        K I1 X) ∧
      (¬ 18 ≤ l1 →
        vp_in l1 216 ∧
        vp_in ((18 * (I 129 22)) + l1) 720 ∧
        ∀ I4 : IT, I4 = set2 I 143 ((18 * (I 129 22)) + l1).toNatClampNeg (I 142 l1.toNatClampNeg) →
        ∀ x5 : Int32, x5 = l1 + 1 →
        SR g (d + 1) iX11_remember 2 [(0, rf g 129), (1, .int x5)] I4 X (qV K))) : SR g (d + 1) iX11_remember 2 [(0, rf g 129), (1, .int l1)] I X (qV K) := by
  refine r_iload_n (n := 3) 1 dX11_remember_2 rfl rfl ?_
  refine r_bipush (n := 5) (v := 18) dX11_remember_3 kb_18 rfl ?_
  refine r_icmp_ge (n := 8) (tgt := 34) dX11_remember_5 (by decide) rfl (fun c => ?_) (fun c => ?_)
  · have H := H.1 c
    refine r_aload_n (n := 35) 0 dX11_remember_34 rfl rfl ?_
    refine r_dup (n := 36) dX11_remember_35 rfl rfl ?_
    refine rs_getI (n := 39) cls_10 22 fi_10_22 so_129 gw_1048 dX11_remember_36 rfl ?_
    refine r_iconst (n := 40) (v := 1) dX11_remember_39 ki_1 rfl ?_
    refine r_iadd (n := 41) dX11_remember_40 rfl ?_
    have H := H _ rfl
    refine rs_putI (n := 44) cls_10 22 fp_10_22 so_129 gw_1048 dX11_remember_41 rfl ?_
    exact rs_vret dX11_remember_44 rfl H
  · have H := H.2 c
    refine r_aload_n (n := 9) 0 dX11_remember_8 rfl rfl ?_
    refine r_getR (n := 12) cls_10 23 fi_10_23 so_129 gw_1049 dX11_remember_9 rfl sr_129_23 (by decide) ?_
    refine r_bipush (n := 14) (v := 18) dX11_remember_12 kb_18 rfl ?_
    refine r_aload_n (n := 15) 0 dX11_remember_14 rfl rfl ?_
    refine rs_getI (n := 18) cls_10 22 fi_10_22 so_129 gw_1048 dX11_remember_15 rfl ?_
    refine r_imul (n := 19) dX11_remember_18 rfl ?_
    refine r_iload_n (n := 20) 1 dX11_remember_19 rfl rfl ?_
    refine r_iadd (n := 21) dX11_remember_20 rfl ?_
    refine r_aload_n (n := 22) 0 dX11_remember_21 rfl rfl ?_
    refine r_getR (n := 25) cls_10 21 fi_10_21 so_129 gw_1047 dX11_remember_22 rfl sr_129_21 (by decide) ?_
    refine r_iload_n (n := 26) 1 dX11_remember_25 rfl rfl ?_
    obtain ⟨hi2, H⟩ := H
    refine rs_iald (n := 27) sa_142 hi2 dX11_remember_26 rfl ?_
    obtain ⟨hi3, H⟩ := H
    have H := H _ rfl
    refine rs_iast (n := 28) sa_143 hi3 dX11_remember_27 rfl ?_
    have H := H _ rfl
    refine r_iinc (n := 31) (lv' := [(1, .int _), (0, .ref _)]) 1 dX11_remember_28 rfl rfl (by decide) rfl rfl ?_
    refine r_goto (n := 2) dX11_remember_31 (by decide) ?_
    exact r_sub [1, 0] rfl H
set_option maxRecDepth 20000 in
theorem en_X11_strike {g : OG} {d : Nat} {I : IT} {X : XT} {K : Int32 → IT → XT → Prop} {l1 : Int32} 
    (H : CI g d iX11_isHouse [rf g 129, .int l1] I X (fun r1 I2 X3 =>
        (¬ r1 = 0 →
          vp_in 16 216 ∧
          ((I2 142 (16 : Int32).toNatClampNeg) = 1 →
            K ((-4)) I2 X3) ∧
          (¬ (I2 142 (16 : Int32).toNatClampNeg) = 1 →
            CI g d iX11_isCatching [rf g 129, .int 0, .int l1] I2 X3 (fun r5 I6 X7 =>
              (¬ r5 = 0 →
                (¬ (I6 129 22) = 40 →
                  CV g d iX11_remember [rf g 129] I6 X7 (fun I8 X9 =>
                    vp_in 16 216 ∧
                    ∀ I11 : IT, I11 = set2 I8 142 (16 : Int32).toNatClampNeg 1 →
                    vp_in (10 + l1) 216 ∧
                    ∀ I13 : IT, I13 = set2 I11 142 (10 + l1).toNatClampNeg 1 →
                    K 1 I13 X9)) ∧
                ((I6 129 22) = 40 →
                  K ((-2)) I6 X7)) ∧
              (r5 = 0 →
                K ((-4)) I6 X7)))) ∧
        (r1 = 0 →
          K ((-1)) I2 X3))) : CI g (d + 1) iX11_strike [rf g 129, .int l1] I X K := by
  refine ocall_of (by decide) (Nat.le_of_ble_eq_true rfl) ?_
  show SR g (d + 1) iX11_strike 0 [(0, rf g 129), (1, .int l1)] I X (qI K)
  refine r_aload_n (n := 1) 0 dX11_strike_0 rfl rfl ?_
  refine r_iload_n (n := 2) 1 dX11_strike_1 rfl rfl ?_
  refine rs_cVi (n := 5) (rest := []) (As := [.int _]) vm_X11_isHouse gw_1250 so_129 cq_10 dX11_strike_2 rfl rfl (Nat.le_of_ble_eq_true rfl) rfl (CI.mono H (fun r1 I2 X3 H => ?_))
  refine r_if_ne (n := 8) (tgt := 10) dX11_strike_5 (by decide) rfl (fun c => ?_) (fun c => ?_)
  · have H := H.1 c
    refine r_aload_n (n := 11) 0 dX11_strike_10 rfl rfl ?_
    refine r_getR (n := 14) cls_10 21 fi_10_21 so_129 gw_1047 dX11_strike_11 rfl sr_129_21 (by decide) ?_
    refine r_bipush (n := 16) (v := 16) dX11_strike_14 kb_16 rfl ?_
    obtain ⟨hi4, H⟩ := H
    refine rs_iald (n := 17) sa_142 hi4 dX11_strike_16 rfl ?_
    refine r_iconst (n := 18) (v := 1) dX11_strike_17 ki_1 rfl ?_
    refine r_icmp_eq (n := 21) (tgt := 30) dX11_strike_18 (by decide) rfl (fun c => ?_) (fun c => ?_)
    · have H := H.1 c
      refine r_bipush (n := 32) (v := (-4)) dX11_strike_30 kb_m4 rfl ?_
      exact rs_iret dX11_strike_32 rfl H
    · have H := H.2 c
      refine r_aload_n (n := 22) 0 dX11_strike_21 rfl rfl ?_
      refine r_iconst (n := 23) (v := 0) dX11_strike_22 ki_0 rfl ?_
      refine r_iload_n (n := 24) 1 dX11_strike_23 rfl rfl ?_
      refine rs_cVi (n := 27) (rest := []) (As := [.int _, .int _]) vm_X11_isCatching gw_1258 so_129 cq_10 dX11_strike_24 rfl rfl (Nat.le_of_ble_eq_true rfl) rfl (CI.mono H (fun r5 I6 X7 H => ?_))
      refine r_if_ne (n := 30) (tgt := 33) dX11_strike_27 (by decide) rfl (fun c => ?_) (fun c => ?_)
      · have H := H.1 c
        refine r_aload_n (n := 34) 0 dX11_strike_33 rfl rfl ?_
        refine rs_getI (n := 37) cls_10 22 fi_10_22 so_129 gw_1048 dX11_strike_34 rfl ?_
        refine r_bipush (n := 39) (v := 40) dX11_strike_37 kb_40 rfl ?_
        refine r_icmp_ne (n := 42) (tgt := 45) dX11_strike_39 (by decide) rfl (fun c => ?_) (fun c => ?_)
        · have H := H.1 c
          refine r_aload_n (n := 46) 0 dX11_strike_45 rfl rfl ?_
          refine rs_cVv (n := 49) (rest := []) (As := []) vm_X11_remember gw_1294 so_129 cq_10 dX11_strike_46 rfl rfl (Nat.le_of_ble_eq_true rfl) rfl (CV.mono H (fun I8 X9 H => ?_))
          refine r_aload_n (n := 50) 0 dX11_strike_49 rfl rfl ?_
          refine r_getR (n := 53) cls_10 21 fi_10_21 so_129 gw_1047 dX11_strike_50 rfl sr_129_21 (by decide) ?_
          refine r_bipush (n := 55) (v := 16) dX11_strike_53 kb_16 rfl ?_
          refine r_iconst (n := 56) (v := 1) dX11_strike_55 ki_1 rfl ?_
          obtain ⟨hi10, H⟩ := H
          have H := H _ rfl
          refine rs_iast (n := 57) sa_142 hi10 dX11_strike_56 rfl ?_
          refine r_aload_n (n := 58) 0 dX11_strike_57 rfl rfl ?_
          refine r_getR (n := 61) cls_10 21 fi_10_21 so_129 gw_1047 dX11_strike_58 rfl sr_129_21 (by decide) ?_
          refine r_bipush (n := 63) (v := 10) dX11_strike_61 kb_10 rfl ?_
          refine r_iload_n (n := 64) 1 dX11_strike_63 rfl rfl ?_
          refine r_iadd (n := 65) dX11_strike_64 rfl ?_
          refine r_iconst (n := 66) (v := 1) dX11_strike_65 ki_1 rfl ?_
          obtain ⟨hi12, H⟩ := H
          have H := H _ rfl
          refine rs_iast (n := 67) sa_142 hi12 dX11_strike_66 rfl ?_
          refine r_iconst (n := 68) (v := 1) dX11_strike_67 ki_1 rfl ?_
          exact rs_iret dX11_strike_68 rfl H
        · have H := H.2 c
          refine r_bipush (n := 44) (v := (-2)) dX11_strike_42 kb_m2 rfl ?_
          exact rs_iret dX11_strike_44 rfl H
      · have H := H.2 c
        refine r_bipush (n := 32) (v := (-4)) dX11_strike_30 kb_m4 rfl ?_
        exact rs_iret dX11_strike_32 rfl H
  · have H := H.2 c
    refine r_iconst (n := 9) (v := (-1)) dX11_strike_8 ki_m1 rfl ?_
    exact rs_iret dX11_strike_9 rfl H
set_option maxRecDepth 20000 in
theorem en_X11_carry {g : OG} {d : Nat} {I : IT} {X : XT} {K : Int32 → IT → XT → Prop} {l1 : Int32} {l2 : Int32} 
    (H : CI g d iX11_isHouse [rf g 129, .int l1] I X (fun r1 I2 X3 =>
        (r1 = 0 →
          K ((-1)) I2 X3) ∧
        (¬ r1 = 0 →
          CI g d iX11_isHouse [rf g 129, .int l2] I2 X3 (fun r4 I5 X6 =>
            (r4 = 0 →
              K ((-1)) I5 X6) ∧
            (¬ r4 = 0 →
              (¬ l1 = l2 →
                CI g d iX11_canCarry [rf g 129, .int 0, .int l1, .int l2] I5 X6 (fun r7 I8 X9 =>
                  (¬ r7 = 0 →
                    (¬ (I8 129 22) = 40 →
                      CV g d iX11_remember [rf g 129] I8 X9 (fun I10 X11 =>
                        CV g d iX11_carries [rf g 129, .int 0, .int l2] I10 X11 (fun I12 X13 =>
                          CI g d iX11_burning [rf g 129, .int 0] I12 X13 (fun r14 I15 X16 =>
                            CI g d iX11_bits [.int r14] I15 X16 (fun r17 I18 X19 =>
                              K r17 I18 X19))))) ∧
                    ((I8 129 22) = 40 →
                      K ((-2)) I8 X9)) ∧
                  (r7 = 0 →
                    K ((-4)) I8 X9))) ∧
              (l1 = l2 →
                K ((-1)) I5 X6)))))) : CI g (d + 1) iX11_carry [rf g 129, .int l1, .int l2] I X K := by
  refine ocall_of (by decide) (Nat.le_of_ble_eq_true rfl) ?_
  show SR g (d + 1) iX11_carry 0 [(0, rf g 129), (1, .int l1), (2, .int l2)] I X (qI K)
  refine r_aload_n (n := 1) 0 dX11_carry_0 rfl rfl ?_
  refine r_iload_n (n := 2) 1 dX11_carry_1 rfl rfl ?_
  refine rs_cVi (n := 5) (rest := []) (As := [.int _]) vm_X11_isHouse gw_1250 so_129 cq_10 dX11_carry_2 rfl rfl (Nat.le_of_ble_eq_true rfl) rfl (CI.mono H (fun r1 I2 X3 H => ?_))
  refine r_if_eq (n := 8) (tgt := 21) dX11_carry_5 (by decide) rfl (fun c => ?_) (fun c => ?_)
  · have H := H.1 c
    refine r_iconst (n := 22) (v := (-1)) dX11_carry_21 ki_m1 rfl ?_
    exact rs_iret dX11_carry_22 rfl H
  · have H := H.2 c
    refine r_aload_n (n := 9) 0 dX11_carry_8 rfl rfl ?_
    refine r_iload_n (n := 10) 2 dX11_carry_9 rfl rfl ?_
    refine rs_cVi (n := 13) (rest := []) (As := [.int _]) vm_X11_isHouse gw_1250 so_129 cq_10 dX11_carry_10 rfl rfl (Nat.le_of_ble_eq_true rfl) rfl (CI.mono H (fun r4 I5 X6 H => ?_))
    refine r_if_eq (n := 16) (tgt := 21) dX11_carry_13 (by decide) rfl (fun c => ?_) (fun c => ?_)
    · have H := H.1 c
      refine r_iconst (n := 22) (v := (-1)) dX11_carry_21 ki_m1 rfl ?_
      exact rs_iret dX11_carry_22 rfl H
    · have H := H.2 c
      refine r_iload_n (n := 17) 1 dX11_carry_16 rfl rfl ?_
      refine r_iload_n (n := 18) 2 dX11_carry_17 rfl rfl ?_
      refine r_icmp_ne (n := 21) (tgt := 23) dX11_carry_18 (by decide) rfl (fun c => ?_) (fun c => ?_)
      · have H := H.1 c
        refine r_aload_n (n := 24) 0 dX11_carry_23 rfl rfl ?_
        refine r_iconst (n := 25) (v := 0) dX11_carry_24 ki_0 rfl ?_
        refine r_iload_n (n := 26) 1 dX11_carry_25 rfl rfl ?_
        refine r_iload_n (n := 27) 2 dX11_carry_26 rfl rfl ?_
        refine rs_cVi (n := 30) (rest := []) (As := [.int _, .int _, .int _]) vm_X11_canCarry gw_1302 so_129 cq_10 dX11_carry_27 rfl rfl (Nat.le_of_ble_eq_true rfl) rfl (CI.mono H (fun r7 I8 X9 H => ?_))
        refine r_if_ne (n := 33) (tgt := 36) dX11_carry_30 (by decide) rfl (fun c => ?_) (fun c => ?_)
        · have H := H.1 c
          refine r_aload_n (n := 37) 0 dX11_carry_36 rfl rfl ?_
          refine rs_getI (n := 40) cls_10 22 fi_10_22 so_129 gw_1048 dX11_carry_37 rfl ?_
          refine r_bipush (n := 42) (v := 40) dX11_carry_40 kb_40 rfl ?_
          refine r_icmp_ne (n := 45) (tgt := 48) dX11_carry_42 (by decide) rfl (fun c => ?_) (fun c => ?_)
          · have H := H.1 c
            refine r_aload_n (n := 49) 0 dX11_carry_48 rfl rfl ?_
            refine rs_cVv (n := 52) (rest := []) (As := []) vm_X11_remember gw_1294 so_129 cq_10 dX11_carry_49 rfl rfl (Nat.le_of_ble_eq_true rfl) rfl (CV.mono H (fun I10 X11 H => ?_))
            refine r_aload_n (n := 53) 0 dX11_carry_52 rfl rfl ?_
            refine r_iconst (n := 54) (v := 0) dX11_carry_53 ki_0 rfl ?_
            refine r_iload_n (n := 55) 2 dX11_carry_54 rfl rfl ?_
            refine rs_cVv (n := 58) (rest := []) (As := [.int _, .int _]) vm_X11_carries gw_1317 so_129 cq_10 dX11_carry_55 rfl rfl (Nat.le_of_ble_eq_true rfl) rfl (CV.mono H (fun I12 X13 H => ?_))
            refine r_aload_n (n := 59) 0 dX11_carry_58 rfl rfl ?_
            refine r_iconst (n := 60) (v := 0) dX11_carry_59 ki_0 rfl ?_
            refine rs_cVi (n := 63) (rest := []) (As := [.int _]) vm_X11_burning gw_1321 so_129 cq_10 dX11_carry_60 rfl rfl (Nat.le_of_ble_eq_true rfl) rfl (CI.mono H (fun r14 I15 X16 H => ?_))
            refine rs_cSi (n := 66) (rest := []) (As := [.int _]) sm_X11_bits gw_1325 dX11_carry_63 rfl rfl (Nat.le_of_ble_eq_true rfl) rfl (CI.mono H (fun r17 I18 X19 H => ?_))
            exact rs_iret dX11_carry_66 rfl H
          · have H := H.2 c
            refine r_bipush (n := 47) (v := (-2)) dX11_carry_45 kb_m2 rfl ?_
            exact rs_iret dX11_carry_47 rfl H
        · have H := H.2 c
          refine r_bipush (n := 35) (v := (-4)) dX11_carry_33 kb_m4 rfl ?_
          exact rs_iret dX11_carry_35 rfl H
      · have H := H.2 c
        refine r_iconst (n := 22) (v := (-1)) dX11_carry_21 ki_m1 rfl ?_
        exact rs_iret dX11_carry_22 rfl H
set_option maxRecDepth 20000 in
theorem en_X11_hour {g : OG} {d : Nat} {I : IT} {X : XT} {K : Int32 → IT → XT → Prop}  
    (H : (¬ (I 129 10) = 0 →
        (¬ (I 129 22) = 40 →
          CV g d iX11_remember [rf g 129] I X (fun I1 X2 =>
            CV g d iX11_passes [rf g 129, .int 0] I1 X2 (fun I3 X4 =>
              CI g d iX11_burning [rf g 129, .int 0] I3 X4 (fun r5 I6 X7 =>
                CI g d iX11_bits [.int r5] I6 X7 (fun r8 I9 X10 =>
                  K r8 I9 X10))))) ∧
        ((I 129 22) = 40 →
          K ((-2)) I X)) ∧
      ((I 129 10) = 0 →
        K ((-4)) I X)) : CI g (d + 1) iX11_hour [rf g 129] I X K := by
  refine ocall_of (by decide) (Nat.le_of_ble_eq_true rfl) ?_
  show SR g (d + 1) iX11_hour 0 [(0, rf g 129)] I X (qI K)
  refine r_aload_n (n := 1) 0 dX11_hour_0 rfl rfl ?_
  refine rs_getI (n := 4) cls_10 10 fi_10_10 so_129 gw_1036 dX11_hour_1 rfl ?_
  refine r_if_ne (n := 7) (tgt := 10) dX11_hour_4 (by decide) rfl (fun c => ?_) (fun c => ?_)
  · have H := H.1 c
    refine r_aload_n (n := 11) 0 dX11_hour_10 rfl rfl ?_
    refine rs_getI (n := 14) cls_10 22 fi_10_22 so_129 gw_1048 dX11_hour_11 rfl ?_
    refine r_bipush (n := 16) (v := 40) dX11_hour_14 kb_40 rfl ?_
    refine r_icmp_ne (n := 19) (tgt := 22) dX11_hour_16 (by decide) rfl (fun c => ?_) (fun c => ?_)
    · have H := H.1 c
      refine r_aload_n (n := 23) 0 dX11_hour_22 rfl rfl ?_
      refine rs_cVv (n := 26) (rest := []) (As := []) vm_X11_remember gw_1294 so_129 cq_10 dX11_hour_23 rfl rfl (Nat.le_of_ble_eq_true rfl) rfl (CV.mono H (fun I1 X2 H => ?_))
      refine r_aload_n (n := 27) 0 dX11_hour_26 rfl rfl ?_
      refine r_iconst (n := 28) (v := 0) dX11_hour_27 ki_0 rfl ?_
      refine rs_cVv (n := 31) (rest := []) (As := [.int _]) vm_X11_passes gw_1332 so_129 cq_10 dX11_hour_28 rfl rfl (Nat.le_of_ble_eq_true rfl) rfl (CV.mono H (fun I3 X4 H => ?_))
      refine r_aload_n (n := 32) 0 dX11_hour_31 rfl rfl ?_
      refine r_iconst (n := 33) (v := 0) dX11_hour_32 ki_0 rfl ?_
      refine rs_cVi (n := 36) (rest := []) (As := [.int _]) vm_X11_burning gw_1321 so_129 cq_10 dX11_hour_33 rfl rfl (Nat.le_of_ble_eq_true rfl) rfl (CI.mono H (fun r5 I6 X7 H => ?_))
      refine rs_cSi (n := 39) (rest := []) (As := [.int _]) sm_X11_bits gw_1325 dX11_hour_36 rfl rfl (Nat.le_of_ble_eq_true rfl) rfl (CI.mono H (fun r8 I9 X10 H => ?_))
      exact rs_iret dX11_hour_39 rfl H
    · have H := H.2 c
      refine r_bipush (n := 21) (v := (-2)) dX11_hour_19 kb_m2 rfl ?_
      exact rs_iret dX11_hour_21 rfl H
  · have H := H.2 c
    refine r_bipush (n := 9) (v := (-4)) dX11_hour_7 kb_m4 rfl ?_
    exact rs_iret dX11_hour_9 rfl H
set_option maxRecDepth 20000 in
theorem en_X11_undo {g : OG} {d : Nat} {I : IT} {X : XT} {K : Int32 → IT → XT → Prop} {l1 : Int32} 
    (H : CI g d iX11_in [.int l1, .int 0, .int (I 129 22)] I X (fun r1 I2 X3 =>
        (¬ r1 = 0 →
          ∀ x4 : Int32, x4 = (I2 129 22) - l1 →
          SR g (d + 1) iX11_undo 23 [(0, rf g 129), (1, .int l1), (2, .int x4), (3, .int 0)] I2 X3 (qI K)) ∧
        (r1 = 0 →
          K ((-1)) I2 X3))) : CI g (d + 1) iX11_undo [rf g 129, .int l1] I X K := by
  refine ocall_of (by decide) (Nat.le_of_ble_eq_true rfl) ?_
  show SR g (d + 1) iX11_undo 0 [(0, rf g 129), (1, .int l1)] I X (qI K)
  refine r_iload_n (n := 1) 1 dX11_undo_0 rfl rfl ?_
  refine r_iconst (n := 2) (v := 0) dX11_undo_1 ki_0 rfl ?_
  refine r_aload_n (n := 3) 0 dX11_undo_2 rfl rfl ?_
  refine rs_getI (n := 6) cls_10 22 fi_10_22 so_129 gw_1048 dX11_undo_3 rfl ?_
  refine rs_cSi (n := 9) (rest := []) (As := [.int _, .int _, .int _]) sm_X11_in gw_1150 dX11_undo_6 rfl rfl (Nat.le_of_ble_eq_true rfl) rfl (CI.mono H (fun r1 I2 X3 H => ?_))
  refine r_if_ne (n := 12) (tgt := 14) dX11_undo_9 (by decide) rfl (fun c => ?_) (fun c => ?_)
  · have H := H.1 c
    refine r_aload_n (n := 15) 0 dX11_undo_14 rfl rfl ?_
    refine rs_getI (n := 18) cls_10 22 fi_10_22 so_129 gw_1048 dX11_undo_15 rfl ?_
    refine r_iload_n (n := 19) 1 dX11_undo_18 rfl rfl ?_
    refine r_isub (n := 20) dX11_undo_19 rfl ?_
    have H := H _ rfl
    refine r_istore_n (n := 21) (lv' := [(2, .int _), (0, .ref _), (1, .int _)]) dX11_undo_20 rfl (by decide) rfl rfl ?_
    refine r_iconst (n := 22) (v := 0) dX11_undo_21 ki_0 rfl ?_
    refine r_istore_n (n := 23) (lv' := [(3, .int _), (2, .int _), (0, .ref _), (1, .int _)]) dX11_undo_22 rfl (by decide) rfl rfl ?_
    exact r_sub [2, 3, 1, 0] rfl H
  · have H := H.2 c
    refine r_iconst (n := 13) (v := (-1)) dX11_undo_12 ki_m1 rfl ?_
    exact rs_iret dX11_undo_13 rfl H
set_option maxRecDepth 20000 in
theorem rg_X11_undo_23 {g : OG} {d : Nat} {I : IT} {X : XT} {K : Int32 → IT → XT → Prop} {l1 : Int32} {l2 : Int32} {l3 : Int32} 
    (H : (18 ≤ l3 →
        ∀ I1 : IT, I1 = set2 I 129 22 l1 →
        K l2 I1 X) ∧
      (¬ 18 ≤ l3 →
        (l2 ≤ 0 →
          ∀ I2 : IT, I2 = set2 I 129 22 l1 →
          K l2 I2 X) ∧
        (¬ l2 ≤ 0 →
          vp_in ((18 * l1) + l3) 720 ∧
          vp_in l3 216 ∧
          ∀ I5 : IT, I5 = set2 I 142 l3.toNatClampNeg (I 143 ((18 * l1) + l3).toNatClampNeg) →
          ∀ x6 : Int32, x6 = l3 + 1 →
          SR g (d + 1) iX11_undo 23 [(0, rf g 129), (1, .int l1), (2, .int l2), (3, .int x6)] I5 X (qI K)))) : SR g (d + 1) iX11_undo 23 [(0, rf g 129), (1, .int l1), (2, .int l2), (3, .int l3)] I X (qI K) := by
  refine r_iload_n (n := 24) 3 dX11_undo_23 rfl rfl ?_
  refine r_bipush (n := 26) (v := 18) dX11_undo_24 kb_18 rfl ?_
  refine r_icmp_ge (n := 29) (tgt := 56) dX11_undo_26 (by decide) rfl (fun c => ?_) (fun c => ?_)
  · have H := H.1 c
    refine r_aload_n (n := 57) 0 dX11_undo_56 rfl rfl ?_
    refine r_iload_n (n := 58) 1 dX11_undo_57 rfl rfl ?_
    have H := H _ rfl
    refine rs_putI (n := 61) cls_10 22 fp_10_22 so_129 gw_1048 dX11_undo_58 rfl ?_
    refine r_iload_n (n := 62) 2 dX11_undo_61 rfl rfl ?_
    exact rs_iret dX11_undo_62 rfl H
  · have H := H.2 c
    refine r_iload_n (n := 30) 2 dX11_undo_29 rfl rfl ?_
    refine r_if_le (n := 33) (tgt := 56) dX11_undo_30 (by decide) rfl (fun c => ?_) (fun c => ?_)
    · have H := H.1 c
      refine r_aload_n (n := 57) 0 dX11_undo_56 rfl rfl ?_
      refine r_iload_n (n := 58) 1 dX11_undo_57 rfl rfl ?_
      have H := H _ rfl
      refine rs_putI (n := 61) cls_10 22 fp_10_22 so_129 gw_1048 dX11_undo_58 rfl ?_
      refine r_iload_n (n := 62) 2 dX11_undo_61 rfl rfl ?_
      exact rs_iret dX11_undo_62 rfl H
    · have H := H.2 c
      refine r_aload_n (n := 34) 0 dX11_undo_33 rfl rfl ?_
      refine r_getR (n := 37) cls_10 21 fi_10_21 so_129 gw_1047 dX11_undo_34 rfl sr_129_21 (by decide) ?_
      refine r_iload_n (n := 38) 3 dX11_undo_37 rfl rfl ?_
      refine r_aload_n (n := 39) 0 dX11_undo_38 rfl rfl ?_
      refine r_getR (n := 42) cls_10 23 fi_10_23 so_129 gw_1049 dX11_undo_39 rfl sr_129_23 (by decide) ?_
      refine r_bipush (n := 44) (v := 18) dX11_undo_42 kb_18 rfl ?_
      refine r_iload_n (n := 45) 1 dX11_undo_44 rfl rfl ?_
      refine r_imul (n := 46) dX11_undo_45 rfl ?_
      refine r_iload_n (n := 47) 3 dX11_undo_46 rfl rfl ?_
      refine r_iadd (n := 48) dX11_undo_47 rfl ?_
      obtain ⟨hi3, H⟩ := H
      refine rs_iald (n := 49) sa_143 hi3 dX11_undo_48 rfl ?_
      obtain ⟨hi4, H⟩ := H
      have H := H _ rfl
      refine rs_iast (n := 50) sa_142 hi4 dX11_undo_49 rfl ?_
      have H := H _ rfl
      refine r_iinc (n := 53) (lv' := [(3, .int _), (0, .ref _), (1, .int _), (2, .int _)]) 3 dX11_undo_50 rfl rfl (by decide) rfl rfl ?_
      refine r_goto (n := 23) dX11_undo_53 (by decide) ?_
      exact r_sub [1, 2, 3, 0] rfl H
set_option maxRecDepth 20000 in
theorem en_X11_keep {g : OG} {d : Nat} {I : IT} {X : XT} {K : Int32 → IT → XT → Prop} {l1 : Int32} 
    (H : CI g d iX11_in [.int l1, .int 0, .int 2] I X (fun r1 I2 X3 =>
        (¬ r1 = 0 →
          (¬ (I2 129 10) = 0 →
            vp_in l1 3 ∧
            ∀ I5 : IT, I5 = set2 I2 144 l1.toNatClampNeg 1 →
            vp_in l1 3 ∧
            ∀ I7 : IT, I7 = set2 I5 145 l1.toNatClampNeg (I5 129 22) →
            SR g (d + 1) iX11_keep 40 [(0, rf g 129), (1, .int l1), (2, .int 0)] I7 X3 (qI K)) ∧
          ((I2 129 10) = 0 →
            K ((-4)) I2 X3)) ∧
        (r1 = 0 →
          K ((-1)) I2 X3))) : CI g (d + 1) iX11_keep [rf g 129, .int l1] I X K := by
  refine ocall_of (by decide) (Nat.le_of_ble_eq_true rfl) ?_
  show SR g (d + 1) iX11_keep 0 [(0, rf g 129), (1, .int l1)] I X (qI K)
  refine r_iload_n (n := 1) 1 dX11_keep_0 rfl rfl ?_
  refine r_iconst (n := 2) (v := 0) dX11_keep_1 ki_0 rfl ?_
  refine r_iconst (n := 3) (v := 2) dX11_keep_2 ki_2 rfl ?_
  refine rs_cSi (n := 6) (rest := []) (As := [.int _, .int _, .int _]) sm_X11_in gw_1150 dX11_keep_3 rfl rfl (Nat.le_of_ble_eq_true rfl) rfl (CI.mono H (fun r1 I2 X3 H => ?_))
  refine r_if_ne (n := 9) (tgt := 11) dX11_keep_6 (by decide) rfl (fun c => ?_) (fun c => ?_)
  · have H := H.1 c
    refine r_aload_n (n := 12) 0 dX11_keep_11 rfl rfl ?_
    refine rs_getI (n := 15) cls_10 10 fi_10_10 so_129 gw_1036 dX11_keep_12 rfl ?_
    refine r_if_ne (n := 18) (tgt := 21) dX11_keep_15 (by decide) rfl (fun c => ?_) (fun c => ?_)
    · have H := H.1 c
      refine r_aload_n (n := 22) 0 dX11_keep_21 rfl rfl ?_
      refine r_getR (n := 25) cls_10 24 fi_10_24 so_129 gw_1050 dX11_keep_22 rfl sr_129_24 (by decide) ?_
      refine r_iload_n (n := 26) 1 dX11_keep_25 rfl rfl ?_
      refine r_iconst (n := 27) (v := 1) dX11_keep_26 ki_1 rfl ?_
      obtain ⟨hi4, H⟩ := H
      have H := H _ rfl
      refine rs_zast (n := 28) (by decide) sa_144 hi4 dX11_keep_27 rfl ?_
      refine r_aload_n (n := 29) 0 dX11_keep_28 rfl rfl ?_
      refine r_getR (n := 32) cls_10 25 fi_10_25 so_129 gw_1051 dX11_keep_29 rfl sr_129_25 (by decide) ?_
      refine r_iload_n (n := 33) 1 dX11_keep_32 rfl rfl ?_
      refine r_aload_n (n := 34) 0 dX11_keep_33 rfl rfl ?_
      refine rs_getI (n := 37) cls_10 22 fi_10_22 so_129 gw_1048 dX11_keep_34 rfl ?_
      obtain ⟨hi6, H⟩ := H
      have H := H _ rfl
      refine rs_iast (n := 38) sa_145 hi6 dX11_keep_37 rfl ?_
      refine r_iconst (n := 39) (v := 0) dX11_keep_38 ki_0 rfl ?_
      refine r_istore_n (n := 40) (lv' := [(2, .int _), (0, .ref _), (1, .int _)]) dX11_keep_39 rfl (by decide) rfl rfl ?_
      exact r_sub [1, 2, 0] rfl H
    · have H := H.2 c
      refine r_bipush (n := 20) (v := (-4)) dX11_keep_18 kb_m4 rfl ?_
      exact rs_iret dX11_keep_20 rfl H
  · have H := H.2 c
    refine r_iconst (n := 10) (v := (-1)) dX11_keep_9 ki_m1 rfl ?_
    exact rs_iret dX11_keep_10 rfl H
set_option maxRecDepth 20000 in
theorem rg_X11_keep_40 {g : OG} {d : Nat} {I : IT} {X : XT} {K : Int32 → IT → XT → Prop} {l1 : Int32} {l2 : Int32} 
    (H : (18 ≤ l2 →
        SR g (d + 1) iX11_keep 88 [(0, rf g 129), (1, .int l1), (2, .int 0)] I X (qI K)) ∧
      (¬ 18 ≤ l2 →
        vp_in l2 18 ∧
        vp_in ((18 * l1) + l2) 54 ∧
        ∀ I3 : IT, I3 = set2 I 146 ((18 * l1) + l2).toNatClampNeg (I 141 l2.toNatClampNeg) →
        vp_in l2 216 ∧
        vp_in ((18 * l1) + l2) 54 ∧
        ∀ I6 : IT, I6 = set2 I3 147 ((18 * l1) + l2).toNatClampNeg (I3 142 l2.toNatClampNeg) →
        ∀ x7 : Int32, x7 = l2 + 1 →
        SR g (d + 1) iX11_keep 40 [(0, rf g 129), (1, .int l1), (2, .int x7)] I6 X (qI K))) : SR g (d + 1) iX11_keep 40 [(0, rf g 129), (1, .int l1), (2, .int l2)] I X (qI K) := by
  refine r_iload_n (n := 41) 2 dX11_keep_40 rfl rfl ?_
  refine r_bipush (n := 43) (v := 18) dX11_keep_41 kb_18 rfl ?_
  refine r_icmp_ge (n := 46) (tgt := 86) dX11_keep_43 (by decide) rfl (fun c => ?_) (fun c => ?_)
  · have H := H.1 c
    refine r_iconst (n := 87) (v := 0) dX11_keep_86 ki_0 rfl ?_
    refine r_istore_n (n := 88) (lv' := [(2, .int _), (0, .ref _), (1, .int _)]) dX11_keep_87 rfl (by decide) rfl rfl ?_
    exact r_sub [1, 2, 0] rfl H
  · have H := H.2 c
    refine r_aload_n (n := 47) 0 dX11_keep_46 rfl rfl ?_
    refine r_getR (n := 50) cls_10 26 fi_10_26 so_129 gw_1052 dX11_keep_47 rfl sr_129_26 (by decide) ?_
    refine r_bipush (n := 52) (v := 18) dX11_keep_50 kb_18 rfl ?_
    refine r_iload_n (n := 53) 1 dX11_keep_52 rfl rfl ?_
    refine r_imul (n := 54) dX11_keep_53 rfl ?_
    refine r_iload_n (n := 55) 2 dX11_keep_54 rfl rfl ?_
    refine r_iadd (n := 56) dX11_keep_55 rfl ?_
    refine r_aload_n (n := 57) 0 dX11_keep_56 rfl rfl ?_
    refine r_getR (n := 60) cls_10 20 fi_10_20 so_129 gw_1046 dX11_keep_57 rfl sr_129_20 (by decide) ?_
    refine r_iload_n (n := 61) 2 dX11_keep_60 rfl rfl ?_
    obtain ⟨hi1, H⟩ := H
    refine rs_iald (n := 62) sa_141 hi1 dX11_keep_61 rfl ?_
    obtain ⟨hi2, H⟩ := H
    have H := H _ rfl
    refine rs_iast (n := 63) sa_146 hi2 dX11_keep_62 rfl ?_
    refine r_aload_n (n := 64) 0 dX11_keep_63 rfl rfl ?_
    refine r_getR (n := 67) cls_10 27 fi_10_27 so_129 gw_1053 dX11_keep_64 rfl sr_129_27 (by decide) ?_
    refine r_bipush (n := 69) (v := 18) dX11_keep_67 kb_18 rfl ?_
    refine r_iload_n (n := 70) 1 dX11_keep_69 rfl rfl ?_
    refine r_imul (n := 71) dX11_keep_70 rfl ?_
    refine r_iload_n (n := 72) 2 dX11_keep_71 rfl rfl ?_
    refine r_iadd (n := 73) dX11_keep_72 rfl ?_
    refine r_aload_n (n := 74) 0 dX11_keep_73 rfl rfl ?_
    refine r_getR (n := 77) cls_10 21 fi_10_21 so_129 gw_1047 dX11_keep_74 rfl sr_129_21 (by decide) ?_
    refine r_iload_n (n := 78) 2 dX11_keep_77 rfl rfl ?_
    obtain ⟨hi4, H⟩ := H
    refine rs_iald (n := 79) sa_142 hi4 dX11_keep_78 rfl ?_
    obtain ⟨hi5, H⟩ := H
    have H := H _ rfl
    refine rs_iast (n := 80) sa_147 hi5 dX11_keep_79 rfl ?_
    have H := H _ rfl
    refine r_iinc (n := 83) (lv' := [(2, .int _), (0, .ref _), (1, .int _)]) 2 dX11_keep_80 rfl rfl (by decide) rfl rfl ?_
    refine r_goto (n := 40) dX11_keep_83 (by decide) ?_
    exact r_sub [1, 2, 0] rfl H
set_option maxRecDepth 20000 in
theorem rg_X11_keep_88 {g : OG} {d : Nat} {I : IT} {X : XT} {K : Int32 → IT → XT → Prop} {l1 : Int32} {l2 : Int32} 
    (H : ((18 * (I 129 22)) ≤ l2 →
        K (I 129 22) I X) ∧
      (¬ (18 * (I 129 22)) ≤ l2 →
        vp_in l2 720 ∧
        vp_in ((720 * l1) + l2) 2160 ∧
        ∀ I3 : IT, I3 = set2 I 148 ((720 * l1) + l2).toNatClampNeg (I 143 l2.toNatClampNeg) →
        ∀ x4 : Int32, x4 = l2 + 1 →
        SR g (d + 1) iX11_keep 88 [(0, rf g 129), (1, .int l1), (2, .int x4)] I3 X (qI K))) : SR g (d + 1) iX11_keep 88 [(0, rf g 129), (1, .int l1), (2, .int l2)] I X (qI K) := by
  refine r_iload_n (n := 89) 2 dX11_keep_88 rfl rfl ?_
  refine r_bipush (n := 91) (v := 18) dX11_keep_89 kb_18 rfl ?_
  refine r_aload_n (n := 92) 0 dX11_keep_91 rfl rfl ?_
  refine rs_getI (n := 95) cls_10 22 fi_10_22 so_129 gw_1048 dX11_keep_92 rfl ?_
  refine r_imul (n := 96) dX11_keep_95 rfl ?_
  refine r_icmp_ge (n := 99) (tgt := 123) dX11_keep_96 (by decide) rfl (fun c => ?_) (fun c => ?_)
  · have H := H.1 c
    refine r_aload_n (n := 124) 0 dX11_keep_123 rfl rfl ?_
    refine rs_getI (n := 127) cls_10 22 fi_10_22 so_129 gw_1048 dX11_keep_124 rfl ?_
    exact rs_iret dX11_keep_127 rfl H
  · have H := H.2 c
    refine r_aload_n (n := 100) 0 dX11_keep_99 rfl rfl ?_
    refine r_getR (n := 103) cls_10 28 fi_10_28 so_129 gw_1054 dX11_keep_100 rfl sr_129_28 (by decide) ?_
    refine r_sipush (n := 106) (v := 720) dX11_keep_103 ks_720 rfl ?_
    refine r_iload_n (n := 107) 1 dX11_keep_106 rfl rfl ?_
    refine r_imul (n := 108) dX11_keep_107 rfl ?_
    refine r_iload_n (n := 109) 2 dX11_keep_108 rfl rfl ?_
    refine r_iadd (n := 110) dX11_keep_109 rfl ?_
    refine r_aload_n (n := 111) 0 dX11_keep_110 rfl rfl ?_
    refine r_getR (n := 114) cls_10 23 fi_10_23 so_129 gw_1049 dX11_keep_111 rfl sr_129_23 (by decide) ?_
    refine r_iload_n (n := 115) 2 dX11_keep_114 rfl rfl ?_
    obtain ⟨hi1, H⟩ := H
    refine rs_iald (n := 116) sa_143 hi1 dX11_keep_115 rfl ?_
    obtain ⟨hi2, H⟩ := H
    have H := H _ rfl
    refine rs_iast (n := 117) sa_148 hi2 dX11_keep_116 rfl ?_
    have H := H _ rfl
    refine r_iinc (n := 120) (lv' := [(2, .int _), (0, .ref _), (1, .int _)]) 2 dX11_keep_117 rfl rfl (by decide) rfl rfl ?_
    refine r_goto (n := 88) dX11_keep_120 (by decide) ?_
    exact r_sub [1, 2, 0] rfl H
set_option maxRecDepth 20000 in
theorem en_X11_on {g : OG} {d : Nat} {I : IT} {X : XT} {K : Int32 → IT → XT → Prop} {l1 : Int32} 
    (H : CI g d iX11_in [.int l1, .int 0, .int 2] I X (fun r1 I2 X3 =>
        (¬ r1 = 0 →
          vp_in l1 3 ∧
          (¬ (I2 144 l1.toNatClampNeg) = 0 →
            vp_in l1 3 ∧
            ∀ I6 : IT, I6 = set2 I2 129 22 (I2 145 l1.toNatClampNeg) →
            SR g (d + 1) iX11_on 38 [(0, rf g 129), (1, .int l1), (2, .int 0)] I6 X3 (qI K)) ∧
          ((I2 144 l1.toNatClampNeg) = 0 →
            CI g d iX11_meets [rf g 129, .int 1] I2 X3 (fun r7 I8 X9 =>
              K r7 I8 X9))) ∧
        (r1 = 0 →
          K ((-1)) I2 X3))) : CI g (d + 1) iX11_on [rf g 129, .int l1] I X K := by
  refine ocall_of (by decide) (Nat.le_of_ble_eq_true rfl) ?_
  show SR g (d + 1) iX11_on 0 [(0, rf g 129), (1, .int l1)] I X (qI K)
  refine r_iload_n (n := 1) 1 dX11_on_0 rfl rfl ?_
  refine r_iconst (n := 2) (v := 0) dX11_on_1 ki_0 rfl ?_
  refine r_iconst (n := 3) (v := 2) dX11_on_2 ki_2 rfl ?_
  refine rs_cSi (n := 6) (rest := []) (As := [.int _, .int _, .int _]) sm_X11_in gw_1150 dX11_on_3 rfl rfl (Nat.le_of_ble_eq_true rfl) rfl (CI.mono H (fun r1 I2 X3 H => ?_))
  refine r_if_ne (n := 9) (tgt := 11) dX11_on_6 (by decide) rfl (fun c => ?_) (fun c => ?_)
  · have H := H.1 c
    refine r_aload_n (n := 12) 0 dX11_on_11 rfl rfl ?_
    refine r_getR (n := 15) cls_10 24 fi_10_24 so_129 gw_1050 dX11_on_12 rfl sr_129_24 (by decide) ?_
    refine r_iload_n (n := 16) 1 dX11_on_15 rfl rfl ?_
    obtain ⟨hi4, H⟩ := H
    refine rs_zald (n := 17) sa_144 hi4 dX11_on_16 rfl ?_
    refine r_if_ne (n := 20) (tgt := 26) dX11_on_17 (by decide) rfl (fun c => ?_) (fun c => ?_)
    · have H := H.1 c
      refine r_aload_n (n := 27) 0 dX11_on_26 rfl rfl ?_
      refine r_aload_n (n := 28) 0 dX11_on_27 rfl rfl ?_
      refine r_getR (n := 31) cls_10 25 fi_10_25 so_129 gw_1051 dX11_on_28 rfl sr_129_25 (by decide) ?_
      refine r_iload_n (n := 32) 1 dX11_on_31 rfl rfl ?_
      obtain ⟨hi5, H⟩ := H
      refine rs_iald (n := 33) sa_145 hi5 dX11_on_32 rfl ?_
      have H := H _ rfl
      refine rs_putI (n := 36) cls_10 22 fp_10_22 so_129 gw_1048 dX11_on_33 rfl ?_
      refine r_iconst (n := 37) (v := 0) dX11_on_36 ki_0 rfl ?_
      refine r_istore_n (n := 38) (lv' := [(2, .int _), (0, .ref _), (1, .int _)]) dX11_on_37 rfl (by decide) rfl rfl ?_
      exact r_sub [1, 2, 0] rfl H
    · have H := H.2 c
      refine r_aload_n (n := 21) 0 dX11_on_20 rfl rfl ?_
      refine r_iconst (n := 22) (v := 1) dX11_on_21 ki_1 rfl ?_
      refine rs_cVi (n := 25) (rest := []) (As := [.int _]) vm_X11_meets gw_1172 so_129 cq_10 dX11_on_22 rfl rfl (Nat.le_of_ble_eq_true rfl) rfl (CI.mono H (fun r7 I8 X9 H => ?_))
      exact rs_iret dX11_on_25 rfl H
  · have H := H.2 c
    refine r_iconst (n := 10) (v := (-1)) dX11_on_9 ki_m1 rfl ?_
    exact rs_iret dX11_on_10 rfl H
set_option maxRecDepth 20000 in
theorem rg_X11_on_38 {g : OG} {d : Nat} {I : IT} {X : XT} {K : Int32 → IT → XT → Prop} {l1 : Int32} {l2 : Int32} 
    (H : (18 ≤ l2 →
        SR g (d + 1) iX11_on 86 [(0, rf g 129), (1, .int l1), (2, .int 0)] I X (qI K)) ∧
      (¬ 18 ≤ l2 →
        vp_in ((18 * l1) + l2) 54 ∧
        vp_in l2 18 ∧
        ∀ I3 : IT, I3 = set2 I 141 l2.toNatClampNeg (I 146 ((18 * l1) + l2).toNatClampNeg) →
        vp_in ((18 * l1) + l2) 54 ∧
        vp_in l2 216 ∧
        ∀ I6 : IT, I6 = set2 I3 142 l2.toNatClampNeg (I3 147 ((18 * l1) + l2).toNatClampNeg) →
        ∀ x7 : Int32, x7 = l2 + 1 →
        SR g (d + 1) iX11_on 38 [(0, rf g 129), (1, .int l1), (2, .int x7)] I6 X (qI K))) : SR g (d + 1) iX11_on 38 [(0, rf g 129), (1, .int l1), (2, .int l2)] I X (qI K) := by
  refine r_iload_n (n := 39) 2 dX11_on_38 rfl rfl ?_
  refine r_bipush (n := 41) (v := 18) dX11_on_39 kb_18 rfl ?_
  refine r_icmp_ge (n := 44) (tgt := 84) dX11_on_41 (by decide) rfl (fun c => ?_) (fun c => ?_)
  · have H := H.1 c
    refine r_iconst (n := 85) (v := 0) dX11_on_84 ki_0 rfl ?_
    refine r_istore_n (n := 86) (lv' := [(2, .int _), (0, .ref _), (1, .int _)]) dX11_on_85 rfl (by decide) rfl rfl ?_
    exact r_sub [1, 2, 0] rfl H
  · have H := H.2 c
    refine r_aload_n (n := 45) 0 dX11_on_44 rfl rfl ?_
    refine r_getR (n := 48) cls_10 20 fi_10_20 so_129 gw_1046 dX11_on_45 rfl sr_129_20 (by decide) ?_
    refine r_iload_n (n := 49) 2 dX11_on_48 rfl rfl ?_
    refine r_aload_n (n := 50) 0 dX11_on_49 rfl rfl ?_
    refine r_getR (n := 53) cls_10 26 fi_10_26 so_129 gw_1052 dX11_on_50 rfl sr_129_26 (by decide) ?_
    refine r_bipush (n := 55) (v := 18) dX11_on_53 kb_18 rfl ?_
    refine r_iload_n (n := 56) 1 dX11_on_55 rfl rfl ?_
    refine r_imul (n := 57) dX11_on_56 rfl ?_
    refine r_iload_n (n := 58) 2 dX11_on_57 rfl rfl ?_
    refine r_iadd (n := 59) dX11_on_58 rfl ?_
    obtain ⟨hi1, H⟩ := H
    refine rs_iald (n := 60) sa_146 hi1 dX11_on_59 rfl ?_
    obtain ⟨hi2, H⟩ := H
    have H := H _ rfl
    refine rs_iast (n := 61) sa_141 hi2 dX11_on_60 rfl ?_
    refine r_aload_n (n := 62) 0 dX11_on_61 rfl rfl ?_
    refine r_getR (n := 65) cls_10 21 fi_10_21 so_129 gw_1047 dX11_on_62 rfl sr_129_21 (by decide) ?_
    refine r_iload_n (n := 66) 2 dX11_on_65 rfl rfl ?_
    refine r_aload_n (n := 67) 0 dX11_on_66 rfl rfl ?_
    refine r_getR (n := 70) cls_10 27 fi_10_27 so_129 gw_1053 dX11_on_67 rfl sr_129_27 (by decide) ?_
    refine r_bipush (n := 72) (v := 18) dX11_on_70 kb_18 rfl ?_
    refine r_iload_n (n := 73) 1 dX11_on_72 rfl rfl ?_
    refine r_imul (n := 74) dX11_on_73 rfl ?_
    refine r_iload_n (n := 75) 2 dX11_on_74 rfl rfl ?_
    refine r_iadd (n := 76) dX11_on_75 rfl ?_
    obtain ⟨hi4, H⟩ := H
    refine rs_iald (n := 77) sa_147 hi4 dX11_on_76 rfl ?_
    obtain ⟨hi5, H⟩ := H
    have H := H _ rfl
    refine rs_iast (n := 78) sa_142 hi5 dX11_on_77 rfl ?_
    have H := H _ rfl
    refine r_iinc (n := 81) (lv' := [(2, .int _), (0, .ref _), (1, .int _)]) 2 dX11_on_78 rfl rfl (by decide) rfl rfl ?_
    refine r_goto (n := 38) dX11_on_81 (by decide) ?_
    exact r_sub [1, 2, 0] rfl H
set_option maxRecDepth 20000 in
theorem rg_X11_on_86 {g : OG} {d : Nat} {I : IT} {X : XT} {K : Int32 → IT → XT → Prop} {l1 : Int32} {l2 : Int32} 
    (H : ((18 * (I 129 22)) ≤ l2 →
        K (I 129 22) I X) ∧
      (¬ (18 * (I 129 22)) ≤ l2 →
        vp_in ((720 * l1) + l2) 2160 ∧
        vp_in l2 720 ∧
        ∀ I3 : IT, I3 = set2 I 143 l2.toNatClampNeg (I 148 ((720 * l1) + l2).toNatClampNeg) →
        ∀ x4 : Int32, x4 = l2 + 1 →
        SR g (d + 1) iX11_on 86 [(0, rf g 129), (1, .int l1), (2, .int x4)] I3 X (qI K))) : SR g (d + 1) iX11_on 86 [(0, rf g 129), (1, .int l1), (2, .int l2)] I X (qI K) := by
  refine r_iload_n (n := 87) 2 dX11_on_86 rfl rfl ?_
  refine r_bipush (n := 89) (v := 18) dX11_on_87 kb_18 rfl ?_
  refine r_aload_n (n := 90) 0 dX11_on_89 rfl rfl ?_
  refine rs_getI (n := 93) cls_10 22 fi_10_22 so_129 gw_1048 dX11_on_90 rfl ?_
  refine r_imul (n := 94) dX11_on_93 rfl ?_
  refine r_icmp_ge (n := 97) (tgt := 121) dX11_on_94 (by decide) rfl (fun c => ?_) (fun c => ?_)
  · have H := H.1 c
    refine r_aload_n (n := 122) 0 dX11_on_121 rfl rfl ?_
    refine rs_getI (n := 125) cls_10 22 fi_10_22 so_129 gw_1048 dX11_on_122 rfl ?_
    exact rs_iret dX11_on_125 rfl H
  · have H := H.2 c
    refine r_aload_n (n := 98) 0 dX11_on_97 rfl rfl ?_
    refine r_getR (n := 101) cls_10 23 fi_10_23 so_129 gw_1049 dX11_on_98 rfl sr_129_23 (by decide) ?_
    refine r_iload_n (n := 102) 2 dX11_on_101 rfl rfl ?_
    refine r_aload_n (n := 103) 0 dX11_on_102 rfl rfl ?_
    refine r_getR (n := 106) cls_10 28 fi_10_28 so_129 gw_1054 dX11_on_103 rfl sr_129_28 (by decide) ?_
    refine r_sipush (n := 109) (v := 720) dX11_on_106 ks_720 rfl ?_
    refine r_iload_n (n := 110) 1 dX11_on_109 rfl rfl ?_
    refine r_imul (n := 111) dX11_on_110 rfl ?_
    refine r_iload_n (n := 112) 2 dX11_on_111 rfl rfl ?_
    refine r_iadd (n := 113) dX11_on_112 rfl ?_
    obtain ⟨hi1, H⟩ := H
    refine rs_iald (n := 114) sa_148 hi1 dX11_on_113 rfl ?_
    obtain ⟨hi2, H⟩ := H
    have H := H _ rfl
    refine rs_iast (n := 115) sa_143 hi2 dX11_on_114 rfl ?_
    have H := H _ rfl
    refine r_iinc (n := 118) (lv' := [(2, .int _), (0, .ref _), (1, .int _)]) 2 dX11_on_115 rfl rfl (by decide) rfl rfl ?_
    refine r_goto (n := 86) dX11_on_118 (by decide) ?_
    exact r_sub [1, 2, 0] rfl H
set_option maxRecDepth 20000 in
theorem en_X11_catching {g : OG} {d : Nat} {I : IT} {X : XT} {K : Int32 → IT → XT → Prop} {l1 : Int32} 
    (H : SR g (d + 1) iX11_catching 4 [(0, rf g 129), (1, .int l1), (2, .int 0), (3, .int 0)] I X (qI K)) : CI g (d + 1) iX11_catching [rf g 129, .int l1] I X K := by
  refine ocall_of (by decide) (Nat.le_of_ble_eq_true rfl) ?_
  show SR g (d + 1) iX11_catching 0 [(0, rf g 129), (1, .int l1)] I X (qI K)
  refine r_iconst (n := 1) (v := 0) dX11_catching_0 ki_0 rfl ?_
  refine r_istore_n (n := 2) (lv' := [(2, .int _), (0, .ref _), (1, .int _)]) dX11_catching_1 rfl (by decide) rfl rfl ?_
  refine r_iconst (n := 3) (v := 0) dX11_catching_2 ki_0 rfl ?_
  refine r_istore_n (n := 4) (lv' := [(3, .int _), (2, .int _), (0, .ref _), (1, .int _)]) dX11_catching_3 rfl (by decide) rfl rfl ?_
  exact r_sub [2, 3, 1, 0] rfl H
set_option maxRecDepth 20000 in
theorem rg_X11_catching_4 {g : OG} {d : Nat} {I : IT} {X : XT} {K : Int32 → IT → XT → Prop} {l1 : Int32} {l2 : Int32} {l3 : Int32} 
    (H : ((I 129 10) ≤ l3 →
        K l2 I X) ∧
      (¬ (I 129 10) ≤ l3 →
        CI g d iX11_isCatching [rf g 129, .int l1, .int l3] I X (fun r1 I2 X3 =>
          (r1 = 0 →
            ∀ x4 : Int32, x4 = l2 ||| 0 →
            ∀ x5 : Int32, x5 = l3 + 1 →
            SR g (d + 1) iX11_catching 4 [(0, rf g 129), (1, .int l1), (2, .int x4), (3, .int x5)] I2 X3 (qI K)) ∧
          (¬ r1 = 0 →
            ∀ x6 : Int32, x6 = l2 ||| (1 <<< (l3 &&& 31)) →
            ∀ x7 : Int32, x7 = l3 + 1 →
            SR g (d + 1) iX11_catching 4 [(0, rf g 129), (1, .int l1), (2, .int x6), (3, .int x7)] I2 X3 (qI K))))) : SR g (d + 1) iX11_catching 4 [(0, rf g 129), (1, .int l1), (2, .int l2), (3, .int l3)] I X (qI K) := by
  refine r_iload_n (n := 5) 3 dX11_catching_4 rfl rfl ?_
  refine r_aload_n (n := 6) 0 dX11_catching_5 rfl rfl ?_
  refine rs_getI (n := 9) cls_10 10 fi_10_10 so_129 gw_1036 dX11_catching_6 rfl ?_
  refine r_icmp_ge (n := 12) (tgt := 37) dX11_catching_9 (by decide) rfl (fun c => ?_) (fun c => ?_)
  · have H := H.1 c
    refine r_iload_n (n := 38) 2 dX11_catching_37 rfl rfl ?_
    exact rs_iret dX11_catching_38 rfl H
  · have H := H.2 c
    refine r_iload_n (n := 13) 2 dX11_catching_12 rfl rfl ?_
    refine r_aload_n (n := 14) 0 dX11_catching_13 rfl rfl ?_
    refine r_iload_n (n := 15) 1 dX11_catching_14 rfl rfl ?_
    refine r_iload_n (n := 16) 3 dX11_catching_15 rfl rfl ?_
    refine rs_cVi (n := 19) (rest := [.int _]) (As := [.int _, .int _]) vm_X11_isCatching gw_1258 so_129 cq_10 dX11_catching_16 rfl rfl (Nat.le_of_ble_eq_true rfl) rfl (CI.mono H (fun r1 I2 X3 H => ?_))
    refine r_if_eq (n := 22) (tgt := 28) dX11_catching_19 (by decide) rfl (fun c => ?_) (fun c => ?_)
    · have H := H.1 c
      refine r_iconst (n := 29) (v := 0) dX11_catching_28 ki_0 rfl ?_
      refine r_ior (n := 30) dX11_catching_29 rfl ?_
      have H := H _ rfl
      refine r_istore_n (n := 31) (lv' := [(2, .int _), (0, .ref _), (1, .int _), (3, .int _)]) dX11_catching_30 rfl (by decide) rfl rfl ?_
      have H := H _ rfl
      refine r_iinc (n := 34) (lv' := [(3, .int _), (2, .int _), (0, .ref _), (1, .int _)]) 3 dX11_catching_31 rfl rfl (by decide) rfl rfl ?_
      refine r_goto (n := 4) dX11_catching_34 (by decide) ?_
      exact r_sub [2, 3, 1, 0] rfl H
    · have H := H.2 c
      refine r_iconst (n := 23) (v := 1) dX11_catching_22 ki_1 rfl ?_
      refine r_iload_n (n := 24) 3 dX11_catching_23 rfl rfl ?_
      refine r_ishl (n := 25) dX11_catching_24 rfl ?_
      refine r_goto (n := 29) dX11_catching_25 (by decide) ?_
      refine r_ior (n := 30) dX11_catching_29 rfl ?_
      have H := H _ rfl
      refine r_istore_n (n := 31) (lv' := [(2, .int _), (0, .ref _), (1, .int _), (3, .int _)]) dX11_catching_30 rfl (by decide) rfl rfl ?_
      have H := H _ rfl
      refine r_iinc (n := 34) (lv' := [(3, .int _), (2, .int _), (0, .ref _), (1, .int _)]) 3 dX11_catching_31 rfl rfl (by decide) rfl rfl ?_
      refine r_goto (n := 4) dX11_catching_34 (by decide) ?_
      exact r_sub [2, 3, 1, 0] rfl H
set_option maxRecDepth 20000 in
theorem en_X11_fires {g : OG} {d : Nat} {I : IT} {X : XT} {K : Int32 → IT → XT → Prop}  
    (H : CI g d iX11_catching [rf g 129, .int 0] I X (fun r1 I2 X3 =>
        CI g d iX11_burning [rf g 129, .int 0] I2 X3 (fun r4 I5 X6 =>
          CI g d iX11_tells [rf g 129, .int r1, .int r4] I5 X6 (fun r7 I8 X9 =>
            K r7 I8 X9)))) : CI g (d + 1) iX11_fires [rf g 129] I X K := by
  refine ocall_of (by decide) (Nat.le_of_ble_eq_true rfl) ?_
  show SR g (d + 1) iX11_fires 0 [(0, rf g 129)] I X (qI K)
  refine r_aload_n (n := 1) 0 dX11_fires_0 rfl rfl ?_
  refine r_aload_n (n := 2) 0 dX11_fires_1 rfl rfl ?_
  refine r_iconst (n := 3) (v := 0) dX11_fires_2 ki_0 rfl ?_
  refine rs_cVi (n := 6) (rest := [.ref _]) (As := [.int _]) vm_X11_catching gw_1355 so_129 cq_10 dX11_fires_3 rfl rfl (Nat.le_of_ble_eq_true rfl) rfl (CI.mono H (fun r1 I2 X3 H => ?_))
  refine r_aload_n (n := 7) 0 dX11_fires_6 rfl rfl ?_
  refine r_iconst (n := 8) (v := 0) dX11_fires_7 ki_0 rfl ?_
  refine rs_cVi (n := 11) (rest := [.int _, .ref _]) (As := [.int _]) vm_X11_burning gw_1321 so_129 cq_10 dX11_fires_8 rfl rfl (Nat.le_of_ble_eq_true rfl) rfl (CI.mono H (fun r4 I5 X6 H => ?_))
  refine rs_cVi (n := 14) (rest := []) (As := [.int _, .int _]) vm_X11_tells gw_1184 so_129 cq_10 dX11_fires_11 rfl rfl (Nat.le_of_ble_eq_true rfl) rfl (CI.mono H (fun r7 I8 X9 H => ?_))
  exact rs_iret dX11_fires_14 rfl H
set_option maxRecDepth 20000 in
theorem en_X11_reach {g : OG} {d : Nat} {I : IT} {X : XT} {K : Int32 → IT → XT → Prop}  
    (H : SR g (d + 1) iX11_reach 4 [(0, rf g 129), (1, .int 0), (2, .int 0)] I X (qI K)) : CI g (d + 1) iX11_reach [rf g 129] I X K := by
  refine ocall_of (by decide) (Nat.le_of_ble_eq_true rfl) ?_
  show SR g (d + 1) iX11_reach 0 [(0, rf g 129)] I X (qI K)
  refine r_iconst (n := 1) (v := 0) dX11_reach_0 ki_0 rfl ?_
  refine r_istore_n (n := 2) (lv' := [(1, .int _), (0, .ref _)]) dX11_reach_1 rfl (by decide) rfl rfl ?_
  refine r_iconst (n := 3) (v := 0) dX11_reach_2 ki_0 rfl ?_
  refine r_istore_n (n := 4) (lv' := [(2, .int _), (1, .int _), (0, .ref _)]) dX11_reach_3 rfl (by decide) rfl rfl ?_
  exact r_sub [2, 1, 0] rfl H
set_option maxRecDepth 20000 in
theorem rg_X11_reach_4 {g : OG} {d : Nat} {I : IT} {X : XT} {K : Int32 → IT → XT → Prop} {l1 : Int32} {l2 : Int32} 
    (H : ((I 129 10) ≤ l2 →
        K l1 I X) ∧
      (¬ (I 129 10) ≤ l2 →
        SR g (d + 1) iX11_reach 14 [(0, rf g 129), (1, .int l1), (2, .int l2), (3, .int 0)] I X (qI K))) : SR g (d + 1) iX11_reach 4 [(0, rf g 129), (1, .int l1), (2, .int l2)] I X (qI K) := by
  refine r_iload_n (n := 5) 2 dX11_reach_4 rfl rfl ?_
  refine r_aload_n (n := 6) 0 dX11_reach_5 rfl rfl ?_
  refine rs_getI (n := 9) cls_10 10 fi_10_10 so_129 gw_1036 dX11_reach_6 rfl ?_
  refine r_icmp_ge (n := 12) (tgt := 54) dX11_reach_9 (by decide) rfl (fun c => ?_) (fun c => ?_)
  · have H := H.1 c
    refine r_iload_n (n := 55) 1 dX11_reach_54 rfl rfl ?_
    exact rs_iret dX11_reach_55 rfl H
  · have H := H.2 c
    refine r_iconst (n := 13) (v := 0) dX11_reach_12 ki_0 rfl ?_
    refine r_istore_n (n := 14) (lv' := [(3, .int _), (0, .ref _), (1, .int _), (2, .int _)]) dX11_reach_13 rfl (by decide) rfl rfl ?_
    exact r_sub [1, 2, 3, 0] rfl H
set_option maxRecDepth 20000 in
theorem rg_X11_reach_14 {g : OG} {d : Nat} {I : IT} {X : XT} {K : Int32 → IT → XT → Prop} {l1 : Int32} {l2 : Int32} {l3 : Int32} 
    (H : ((I 129 10) ≤ l3 →
        ∀ x1 : Int32, x1 = l2 + 1 →
        SR g (d + 1) iX11_reach 4 [(0, rf g 129), (1, .int l1), (2, .int x1)] I X (qI K)) ∧
      (¬ (I 129 10) ≤ l3 →
        CI g d iX11_canCarry [rf g 129, .int 0, .int l2, .int l3] I X (fun r2 I3 X4 =>
          (r2 = 0 →
            ∀ x5 : Int32, x5 = l1 ||| 0 →
            ∀ x6 : Int32, x6 = l3 + 1 →
            SR g (d + 1) iX11_reach 14 [(0, rf g 129), (1, .int x5), (2, .int l2), (3, .int x6)] I3 X4 (qI K)) ∧
          (¬ r2 = 0 →
            ∀ x7 : Int32, x7 = l1 ||| (1 <<< (l3 &&& 31)) →
            ∀ x8 : Int32, x8 = l3 + 1 →
            SR g (d + 1) iX11_reach 14 [(0, rf g 129), (1, .int x7), (2, .int l2), (3, .int x8)] I3 X4 (qI K))))) : SR g (d + 1) iX11_reach 14 [(0, rf g 129), (1, .int l1), (2, .int l2), (3, .int l3)] I X (qI K) := by
  refine r_iload_n (n := 15) 3 dX11_reach_14 rfl rfl ?_
  refine r_aload_n (n := 16) 0 dX11_reach_15 rfl rfl ?_
  refine rs_getI (n := 19) cls_10 10 fi_10_10 so_129 gw_1036 dX11_reach_16 rfl ?_
  refine r_icmp_ge (n := 22) (tgt := 48) dX11_reach_19 (by decide) rfl (fun c => ?_) (fun c => ?_)
  · have H := H.1 c
    have H := H _ rfl
    refine r_iinc (n := 51) (lv' := [(2, .int _), (0, .ref _), (1, .int _), (3, .int _)]) 2 dX11_reach_48 rfl rfl (by decide) rfl rfl ?_
    refine r_goto (n := 4) dX11_reach_51 (by decide) ?_
    exact r_sub [1, 2, 0] rfl H
  · have H := H.2 c
    refine r_iload_n (n := 23) 1 dX11_reach_22 rfl rfl ?_
    refine r_aload_n (n := 24) 0 dX11_reach_23 rfl rfl ?_
    refine r_iconst (n := 25) (v := 0) dX11_reach_24 ki_0 rfl ?_
    refine r_iload_n (n := 26) 2 dX11_reach_25 rfl rfl ?_
    refine r_iload_n (n := 27) 3 dX11_reach_26 rfl rfl ?_
    refine rs_cVi (n := 30) (rest := [.int _]) (As := [.int _, .int _, .int _]) vm_X11_canCarry gw_1302 so_129 cq_10 dX11_reach_27 rfl rfl (Nat.le_of_ble_eq_true rfl) rfl (CI.mono H (fun r2 I3 X4 H => ?_))
    refine r_if_eq (n := 33) (tgt := 39) dX11_reach_30 (by decide) rfl (fun c => ?_) (fun c => ?_)
    · have H := H.1 c
      refine r_iconst (n := 40) (v := 0) dX11_reach_39 ki_0 rfl ?_
      refine r_ior (n := 41) dX11_reach_40 rfl ?_
      have H := H _ rfl
      refine r_istore_n (n := 42) (lv' := [(1, .int _), (0, .ref _), (2, .int _), (3, .int _)]) dX11_reach_41 rfl (by decide) rfl rfl ?_
      have H := H _ rfl
      refine r_iinc (n := 45) (lv' := [(3, .int _), (1, .int _), (0, .ref _), (2, .int _)]) 3 dX11_reach_42 rfl rfl (by decide) rfl rfl ?_
      refine r_goto (n := 14) dX11_reach_45 (by decide) ?_
      exact r_sub [2, 1, 3, 0] rfl H
    · have H := H.2 c
      refine r_iconst (n := 34) (v := 1) dX11_reach_33 ki_1 rfl ?_
      refine r_iload_n (n := 35) 3 dX11_reach_34 rfl rfl ?_
      refine r_ishl (n := 36) dX11_reach_35 rfl ?_
      refine r_goto (n := 40) dX11_reach_36 (by decide) ?_
      refine r_ior (n := 41) dX11_reach_40 rfl ?_
      have H := H _ rfl
      refine r_istore_n (n := 42) (lv' := [(1, .int _), (0, .ref _), (2, .int _), (3, .int _)]) dX11_reach_41 rfl (by decide) rfl rfl ?_
      have H := H _ rfl
      refine r_iinc (n := 45) (lv' := [(3, .int _), (1, .int _), (0, .ref _), (2, .int _)]) 3 dX11_reach_42 rfl rfl (by decide) rfl rfl ?_
      refine r_goto (n := 14) dX11_reach_45 (by decide) ?_
      exact r_sub [2, 1, 3, 0] rfl H
set_option maxRecDepth 20000 in
theorem en_X11_outOf {g : OG} {d : Nat} {I : IT} {X : XT} {K : Int32 → IT → XT → Prop} {l1 : Int32} 
    (H : SR g (d + 1) iX11_outOf 2 [(0, rf g 129), (1, .int l1), (2, .int 0)] I X (qI K)) : CI g (d + 1) iX11_outOf [rf g 129, .int l1] I X K := by
  refine ocall_of (by decide) (Nat.le_of_ble_eq_true rfl) ?_
  show SR g (d + 1) iX11_outOf 0 [(0, rf g 129), (1, .int l1)] I X (qI K)
  refine r_iconst (n := 1) (v := 0) dX11_outOf_0 ki_0 rfl ?_
  refine r_istore_n (n := 2) (lv' := [(2, .int _), (0, .ref _), (1, .int _)]) dX11_outOf_1 rfl (by decide) rfl rfl ?_
  exact r_sub [1, 2, 0] rfl H
set_option maxRecDepth 20000 in
theorem rg_X11_outOf_2 {g : OG} {d : Nat} {I : IT} {X : XT} {K : Int32 → IT → XT → Prop} {l1 : Int32} {l2 : Int32} 
    (H : CI g d iX11_burning [rf g 129, .int 1] I X (fun r1 I2 X3 =>
        ((r1 &&& l1) = 0 →
          K l2 I2 X3) ∧
        (¬ (r1 &&& l1) = 0 →
          CV g d iX11_passes [rf g 129, .int 1] I2 X3 (fun I4 X5 =>
            ∀ x6 : Int32, x6 = l2 + 1 →
            SR g (d + 1) iX11_outOf 2 [(0, rf g 129), (1, .int l1), (2, .int x6)] I4 X5 (qI K))))) : SR g (d + 1) iX11_outOf 2 [(0, rf g 129), (1, .int l1), (2, .int l2)] I X (qI K) := by
  refine r_aload_n (n := 3) 0 dX11_outOf_2 rfl rfl ?_
  refine r_iconst (n := 4) (v := 1) dX11_outOf_3 ki_1 rfl ?_
  refine rs_cVi (n := 7) (rest := []) (As := [.int _]) vm_X11_burning gw_1321 so_129 cq_10 dX11_outOf_4 rfl rfl (Nat.le_of_ble_eq_true rfl) rfl (CI.mono H (fun r1 I2 X3 H => ?_))
  refine r_iload_n (n := 8) 1 dX11_outOf_7 rfl rfl ?_
  refine r_iand (n := 9) dX11_outOf_8 rfl ?_
  refine r_if_eq (n := 12) (tgt := 23) dX11_outOf_9 (by decide) rfl (fun c => ?_) (fun c => ?_)
  · have H := H.1 c
    refine r_iload_n (n := 24) 2 dX11_outOf_23 rfl rfl ?_
    exact rs_iret dX11_outOf_24 rfl H
  · have H := H.2 c
    refine r_aload_n (n := 13) 0 dX11_outOf_12 rfl rfl ?_
    refine r_iconst (n := 14) (v := 1) dX11_outOf_13 ki_1 rfl ?_
    refine rs_cVv (n := 17) (rest := []) (As := [.int _]) vm_X11_passes gw_1332 so_129 cq_10 dX11_outOf_14 rfl rfl (Nat.le_of_ble_eq_true rfl) rfl (CV.mono H (fun I4 X5 H => ?_))
    have H := H _ rfl
    refine r_iinc (n := 20) (lv' := [(2, .int _), (0, .ref _), (1, .int _)]) 2 dX11_outOf_17 rfl rfl (by decide) rfl rfl ?_
    refine r_goto (n := 2) dX11_outOf_20 (by decide) ?_
    exact r_sub [1, 2, 0] rfl H
set_option maxRecDepth 20000 in
theorem en_X11_lasts {g : OG} {d : Nat} {I : IT} {X : XT} {K : Int32 → IT → XT → Prop} {l1 : Int32} 
    (H : CI g d iX11_isHouse [rf g 129, .int l1] I X (fun r1 I2 X3 =>
        (¬ r1 = 0 →
          CV g d iX11_copyTo [rf g 129, .int 0, .int 1] I2 X3 (fun I4 X5 =>
            CI g d iX11_outOf [rf g 129, .int (1 <<< (l1 &&& 31))] I4 X5 (fun r6 I7 X8 =>
              K r6 I7 X8))) ∧
        (r1 = 0 →
          K ((-1)) I2 X3))) : CI g (d + 1) iX11_lasts [rf g 129, .int l1] I X K := by
  refine ocall_of (by decide) (Nat.le_of_ble_eq_true rfl) ?_
  show SR g (d + 1) iX11_lasts 0 [(0, rf g 129), (1, .int l1)] I X (qI K)
  refine r_aload_n (n := 1) 0 dX11_lasts_0 rfl rfl ?_
  refine r_iload_n (n := 2) 1 dX11_lasts_1 rfl rfl ?_
  refine rs_cVi (n := 5) (rest := []) (As := [.int _]) vm_X11_isHouse gw_1250 so_129 cq_10 dX11_lasts_2 rfl rfl (Nat.le_of_ble_eq_true rfl) rfl (CI.mono H (fun r1 I2 X3 H => ?_))
  refine r_if_ne (n := 8) (tgt := 10) dX11_lasts_5 (by decide) rfl (fun c => ?_) (fun c => ?_)
  · have H := H.1 c
    refine r_aload_n (n := 11) 0 dX11_lasts_10 rfl rfl ?_
    refine r_iconst (n := 12) (v := 0) dX11_lasts_11 ki_0 rfl ?_
    refine r_iconst (n := 13) (v := 1) dX11_lasts_12 ki_1 rfl ?_
    refine rs_cVv (n := 16) (rest := []) (As := [.int _, .int _]) vm_X11_copyTo gw_1367 so_129 cq_10 dX11_lasts_13 rfl rfl (Nat.le_of_ble_eq_true rfl) rfl (CV.mono H (fun I4 X5 H => ?_))
    refine r_aload_n (n := 17) 0 dX11_lasts_16 rfl rfl ?_
    refine r_iconst (n := 18) (v := 1) dX11_lasts_17 ki_1 rfl ?_
    refine r_iload_n (n := 19) 1 dX11_lasts_18 rfl rfl ?_
    refine r_ishl (n := 20) dX11_lasts_19 rfl ?_
    refine rs_cVi (n := 23) (rest := []) (As := [.int _]) vm_X11_outOf gw_1371 so_129 cq_10 dX11_lasts_20 rfl rfl (Nat.le_of_ble_eq_true rfl) rfl (CI.mono H (fun r6 I7 X8 H => ?_))
    exact rs_iret dX11_lasts_23 rfl H
  · have H := H.2 c
    refine r_iconst (n := 9) (v := (-1)) dX11_lasts_8 ki_m1 rfl ?_
    exact rs_iret dX11_lasts_9 rfl H
set_option maxRecDepth 20000 in
theorem en_X11_everybody {g : OG} {d : Nat} {I : IT} {X : XT} {K : Int32 → IT → XT → Prop}  
    (H : K ((1 <<< ((I 129 10) &&& 31)) - 1) I X) : CI g (d + 1) iX11_everybody [rf g 129] I X K := by
  refine ocall_of (by decide) (Nat.le_of_ble_eq_true rfl) ?_
  show SR g (d + 1) iX11_everybody 0 [(0, rf g 129)] I X (qI K)
  refine r_iconst (n := 1) (v := 1) dX11_everybody_0 ki_1 rfl ?_
  refine r_aload_n (n := 2) 0 dX11_everybody_1 rfl rfl ?_
  refine rs_getI (n := 5) cls_10 10 fi_10_10 so_129 gw_1036 dX11_everybody_2 rfl ?_
  refine r_ishl (n := 6) dX11_everybody_5 rfl ?_
  refine r_iconst (n := 7) (v := 1) dX11_everybody_6 ki_1 rfl ?_
  refine r_isub (n := 8) dX11_everybody_7 rfl ?_
  exact rs_iret dX11_everybody_8 rfl H
set_option maxRecDepth 20000 in
theorem en_X11_dark {g : OG} {d : Nat} {I : IT} {X : XT} {K : Int32 → IT → XT → Prop}  
    (H : CV g d iX11_copyTo [rf g 129, .int 0, .int 1] I X (fun I1 X2 =>
        CI g d iX11_everybody [rf g 129] I1 X2 (fun r3 I4 X5 =>
          CI g d iX11_outOf [rf g 129, .int r3] I4 X5 (fun r6 I7 X8 =>
            K r6 I7 X8)))) : CI g (d + 1) iX11_dark [rf g 129] I X K := by
  refine ocall_of (by decide) (Nat.le_of_ble_eq_true rfl) ?_
  show SR g (d + 1) iX11_dark 0 [(0, rf g 129)] I X (qI K)
  refine r_aload_n (n := 1) 0 dX11_dark_0 rfl rfl ?_
  refine r_iconst (n := 2) (v := 0) dX11_dark_1 ki_0 rfl ?_
  refine r_iconst (n := 3) (v := 1) dX11_dark_2 ki_1 rfl ?_
  refine rs_cVv (n := 6) (rest := []) (As := [.int _, .int _]) vm_X11_copyTo gw_1367 so_129 cq_10 dX11_dark_3 rfl rfl (Nat.le_of_ble_eq_true rfl) rfl (CV.mono H (fun I1 X2 H => ?_))
  refine r_aload_n (n := 7) 0 dX11_dark_6 rfl rfl ?_
  refine r_aload_n (n := 8) 0 dX11_dark_7 rfl rfl ?_
  refine rs_cVi (n := 11) (rest := [.ref _]) (As := []) vm_X11_everybody gw_1379 so_129 cq_10 dX11_dark_8 rfl rfl (Nat.le_of_ble_eq_true rfl) rfl (CI.mono H (fun r3 I4 X5 H => ?_))
  refine rs_cVi (n := 14) (rest := []) (As := [.int _]) vm_X11_outOf gw_1371 so_129 cq_10 dX11_dark_11 rfl rfl (Nat.le_of_ble_eq_true rfl) rfl (CI.mono H (fun r6 I7 X8 H => ?_))
  exact rs_iret dX11_dark_14 rfl H
set_option maxRecDepth 20000 in
theorem en_X11_worst {g : OG} {d : Nat} {I : IT} {X : XT} {K : Int32 → IT → XT → Prop} {l1 : Int32} 
    (H : CI g d iX11_in [.int l1, .int 1, .int 20] I X (fun r1 I2 X3 =>
        (¬ r1 = 0 →
          (¬ (I2 129 10) = 0 →
            CV g d iX11_copyTo [rf g 129, .int 0, .int 1] I2 X3 (fun I4 X5 =>
              SR g (d + 1) iX11_worst 36 [(0, rf g 129), (1, .int l1), (2, .int 0), (3, .int 6), (4, .int 1)] I4 X5 (qI K))) ∧
          ((I2 129 10) = 0 →
            K ((-4)) I2 X3)) ∧
        (r1 = 0 →
          K ((-1)) I2 X3))) : CI g (d + 1) iX11_worst [rf g 129, .int l1] I X K := by
  refine ocall_of (by decide) (Nat.le_of_ble_eq_true rfl) ?_
  show SR g (d + 1) iX11_worst 0 [(0, rf g 129), (1, .int l1)] I X (qI K)
  refine r_iload_n (n := 1) 1 dX11_worst_0 rfl rfl ?_
  refine r_iconst (n := 2) (v := 1) dX11_worst_1 ki_1 rfl ?_
  refine r_bipush (n := 4) (v := 20) dX11_worst_2 kb_20 rfl ?_
  refine rs_cSi (n := 7) (rest := []) (As := [.int _, .int _, .int _]) sm_X11_in gw_1150 dX11_worst_4 rfl rfl (Nat.le_of_ble_eq_true rfl) rfl (CI.mono H (fun r1 I2 X3 H => ?_))
  refine r_if_ne (n := 10) (tgt := 12) dX11_worst_7 (by decide) rfl (fun c => ?_) (fun c => ?_)
  · have H := H.1 c
    refine r_aload_n (n := 13) 0 dX11_worst_12 rfl rfl ?_
    refine rs_getI (n := 16) cls_10 10 fi_10_10 so_129 gw_1036 dX11_worst_13 rfl ?_
    refine r_if_ne (n := 19) (tgt := 22) dX11_worst_16 (by decide) rfl (fun c => ?_) (fun c => ?_)
    · have H := H.1 c
      refine r_aload_n (n := 23) 0 dX11_worst_22 rfl rfl ?_
      refine r_iconst (n := 24) (v := 0) dX11_worst_23 ki_0 rfl ?_
      refine r_iconst (n := 25) (v := 1) dX11_worst_24 ki_1 rfl ?_
      refine rs_cVv (n := 28) (rest := []) (As := [.int _, .int _]) vm_X11_copyTo gw_1367 so_129 cq_10 dX11_worst_25 rfl rfl (Nat.le_of_ble_eq_true rfl) rfl (CV.mono H (fun I4 X5 H => ?_))
      refine r_iconst (n := 29) (v := 0) dX11_worst_28 ki_0 rfl ?_
      refine r_istore_n (n := 30) (lv' := [(2, .int _), (0, .ref _), (1, .int _)]) dX11_worst_29 rfl (by decide) rfl rfl ?_
      refine r_bipush (n := 32) (v := 6) dX11_worst_30 kb_6 rfl ?_
      refine r_istore_n (n := 33) (lv' := [(3, .int _), (2, .int _), (0, .ref _), (1, .int _)]) dX11_worst_32 rfl (by decide) rfl rfl ?_
      refine r_iconst (n := 34) (v := 1) dX11_worst_33 ki_1 rfl ?_
      refine r_istore (n := 36) (lv' := [(4, .int _), (3, .int _), (2, .int _), (0, .ref _), (1, .int _)]) dX11_worst_34 (by decide) rfl rfl ?_
      exact r_sub [3, 4, 2, 1, 0] rfl H
    · have H := H.2 c
      refine r_bipush (n := 21) (v := (-4)) dX11_worst_19 kb_m4 rfl ?_
      exact rs_iret dX11_worst_21 rfl H
  · have H := H.2 c
    refine r_iconst (n := 11) (v := (-1)) dX11_worst_10 ki_m1 rfl ?_
    exact rs_iret dX11_worst_11 rfl H
set_option maxRecDepth 20000 in
theorem rg_X11_worst_36 {g : OG} {d : Nat} {I : IT} {X : XT} {K : Int32 → IT → XT → Prop} {l1 : Int32} {l2 : Int32} {l3 : Int32} {l4 : Int32} 
    (H : (l1 < l4 →
        CI g d iX11_tells [rf g 129, .int l3, .int l2] I X (fun r1 I2 X3 =>
          K r1 I2 X3)) ∧
      (¬ l1 < l4 →
        CV g d iX11_passes [rf g 129, .int 1] I X (fun I4 X5 =>
          CI g d iX11_burning [rf g 129, .int 1] I4 X5 (fun r6 I7 X8 =>
            CI g d iX11_bits [.int r6] I7 X8 (fun r9 I10 X11 =>
              (l3 ≤ r9 →
                (l3 ≤ r9 →
                  ∀ x12 : Int32, x12 = l4 + 1 →
                  SR g (d + 1) iX11_worst 36 [(0, rf g 129), (1, .int l1), (2, .int l2), (3, .int l3), (4, .int x12)] I10 X11 (qI K)) ∧
                (¬ l3 ≤ r9 →
                  ∀ x13 : Int32, x13 = l4 + 1 →
                  SR g (d + 1) iX11_worst 36 [(0, rf g 129), (1, .int l1), (2, .int l2), (3, .int r9), (4, .int x13)] I10 X11 (qI K))) ∧
              (¬ l3 ≤ r9 →
                (l3 ≤ r9 →
                  ∀ x14 : Int32, x14 = l4 + 1 →
                  SR g (d + 1) iX11_worst 36 [(0, rf g 129), (1, .int l1), (2, .int l4), (3, .int l3), (4, .int x14)] I10 X11 (qI K)) ∧
                (¬ l3 ≤ r9 →
                  ∀ x15 : Int32, x15 = l4 + 1 →
                  SR g (d + 1) iX11_worst 36 [(0, rf g 129), (1, .int l1), (2, .int l4), (3, .int r9), (4, .int x15)] I10 X11 (qI K)))))))) : SR g (d + 1) iX11_worst 36 [(0, rf g 129), (1, .int l1), (2, .int l2), (3, .int l3), (4, .int l4)] I X (qI K) := by
  refine r_iload (n := 38) 4 dX11_worst_36 rfl rfl ?_
  refine r_iload_n (n := 39) 1 dX11_worst_38 rfl rfl ?_
  refine r_icmp_gt (n := 42) (tgt := 89) dX11_worst_39 (by decide) rfl (fun c => ?_) (fun c => ?_)
  · have H := H.1 c
    refine r_aload_n (n := 90) 0 dX11_worst_89 rfl rfl ?_
    refine r_iload_n (n := 91) 3 dX11_worst_90 rfl rfl ?_
    refine r_iload_n (n := 92) 2 dX11_worst_91 rfl rfl ?_
    refine rs_cVi (n := 95) (rest := []) (As := [.int _, .int _]) vm_X11_tells gw_1184 so_129 cq_10 dX11_worst_92 rfl rfl (Nat.le_of_ble_eq_true rfl) rfl (CI.mono H (fun r1 I2 X3 H => ?_))
    exact rs_iret dX11_worst_95 rfl H
  · have H := H.2 c
    refine r_aload_n (n := 43) 0 dX11_worst_42 rfl rfl ?_
    refine r_iconst (n := 44) (v := 1) dX11_worst_43 ki_1 rfl ?_
    refine rs_cVv (n := 47) (rest := []) (As := [.int _]) vm_X11_passes gw_1332 so_129 cq_10 dX11_worst_44 rfl rfl (Nat.le_of_ble_eq_true rfl) rfl (CV.mono H (fun I4 X5 H => ?_))
    refine r_aload_n (n := 48) 0 dX11_worst_47 rfl rfl ?_
    refine r_iconst (n := 49) (v := 1) dX11_worst_48 ki_1 rfl ?_
    refine rs_cVi (n := 52) (rest := []) (As := [.int _]) vm_X11_burning gw_1321 so_129 cq_10 dX11_worst_49 rfl rfl (Nat.le_of_ble_eq_true rfl) rfl (CI.mono H (fun r6 I7 X8 H => ?_))
    refine rs_cSi (n := 55) (rest := []) (As := [.int _]) sm_X11_bits gw_1325 dX11_worst_52 rfl rfl (Nat.le_of_ble_eq_true rfl) rfl (CI.mono H (fun r9 I10 X11 H => ?_))
    refine r_istore (n := 57) (lv' := [(5, .int _), (0, .ref _), (1, .int _), (2, .int _), (3, .int _), (4, .int _)]) dX11_worst_55 (by decide) rfl rfl ?_
    refine r_iload (n := 59) 0 dX11_worst_57 rfl rfl ?_
    refine r_iload_n (n := 60) 4 dX11_worst_59 rfl rfl ?_
    refine r_icmp_ge (n := 63) (tgt := 68) dX11_worst_60 (by decide) rfl (fun c => ?_) (fun c => ?_)
    · have H := H.1 c
      refine r_iload_n (n := 69) 3 dX11_worst_68 rfl rfl ?_
      refine r_istore_n (n := 70) (lv' := [(2, .int _), (5, .int _), (0, .ref _), (1, .int _), (3, .int _), (4, .int _)]) dX11_worst_69 rfl (by decide) rfl rfl ?_
      refine r_iload (n := 72) 1 dX11_worst_70 rfl rfl ?_
      refine r_iload_n (n := 73) 4 dX11_worst_72 rfl rfl ?_
      refine r_icmp_ge (n := 76) (tgt := 81) dX11_worst_73 (by decide) rfl (fun c => ?_) (fun c => ?_)
      · have H := H.1 c
        refine r_iload_n (n := 82) 4 dX11_worst_81 rfl rfl ?_
        refine r_istore_n (n := 83) (lv' := [(3, .int _), (2, .int _), (5, .int _), (0, .ref _), (1, .int _), (4, .int _)]) dX11_worst_82 rfl (by decide) rfl rfl ?_
        have H := H _ rfl
        refine r_iinc (n := 86) (lv' := [(4, .int _), (3, .int _), (2, .int _), (5, .int _), (0, .ref _), (1, .int _)]) 5 dX11_worst_83 rfl rfl (by decide) rfl rfl ?_
        refine r_goto (n := 36) dX11_worst_86 (by decide) ?_
        exact r_sub [4, 5, 2, 1, 0] rfl H
      · have H := H.2 c
        refine r_iload (n := 78) 1 dX11_worst_76 rfl rfl ?_
        refine r_goto (n := 82) dX11_worst_78 (by decide) ?_
        refine r_istore_n (n := 83) (lv' := [(3, .int _), (2, .int _), (5, .int _), (0, .ref _), (1, .int _), (4, .int _)]) dX11_worst_82 rfl (by decide) rfl rfl ?_
        have H := H _ rfl
        refine r_iinc (n := 86) (lv' := [(4, .int _), (3, .int _), (2, .int _), (5, .int _), (0, .ref _), (1, .int _)]) 5 dX11_worst_83 rfl rfl (by decide) rfl rfl ?_
        refine r_goto (n := 36) dX11_worst_86 (by decide) ?_
        exact r_sub [4, 5, 2, 1, 0] rfl H
    · have H := H.2 c
      refine r_iload (n := 65) 5 dX11_worst_63 rfl rfl ?_
      refine r_goto (n := 69) dX11_worst_65 (by decide) ?_
      refine r_istore_n (n := 70) (lv' := [(2, .int _), (5, .int _), (0, .ref _), (1, .int _), (3, .int _), (4, .int _)]) dX11_worst_69 rfl (by decide) rfl rfl ?_
      refine r_iload (n := 72) 1 dX11_worst_70 rfl rfl ?_
      refine r_iload_n (n := 73) 4 dX11_worst_72 rfl rfl ?_
      refine r_icmp_ge (n := 76) (tgt := 81) dX11_worst_73 (by decide) rfl (fun c => ?_) (fun c => ?_)
      · have H := H.1 c
        refine r_iload_n (n := 82) 4 dX11_worst_81 rfl rfl ?_
        refine r_istore_n (n := 83) (lv' := [(3, .int _), (2, .int _), (5, .int _), (0, .ref _), (1, .int _), (4, .int _)]) dX11_worst_82 rfl (by decide) rfl rfl ?_
        have H := H _ rfl
        refine r_iinc (n := 86) (lv' := [(4, .int _), (3, .int _), (2, .int _), (5, .int _), (0, .ref _), (1, .int _)]) 5 dX11_worst_83 rfl rfl (by decide) rfl rfl ?_
        refine r_goto (n := 36) dX11_worst_86 (by decide) ?_
        exact r_sub [4, 5, 2, 1, 0] rfl H
      · have H := H.2 c
        refine r_iload (n := 78) 1 dX11_worst_76 rfl rfl ?_
        refine r_goto (n := 82) dX11_worst_78 (by decide) ?_
        refine r_istore_n (n := 83) (lv' := [(3, .int _), (2, .int _), (5, .int _), (0, .ref _), (1, .int _), (4, .int _)]) dX11_worst_82 rfl (by decide) rfl rfl ?_
        have H := H _ rfl
        refine r_iinc (n := 86) (lv' := [(4, .int _), (3, .int _), (2, .int _), (5, .int _), (0, .ref _), (1, .int _)]) 5 dX11_worst_83 rfl rfl (by decide) rfl rfl ?_
        refine r_goto (n := 36) dX11_worst_86 (by decide) ?_
        exact r_sub [4, 5, 2, 1, 0] rfl H
set_option maxRecDepth 20000 in
theorem en_X11_isNone {g : OG} {d : Nat} {I : IT} {X : XT} {K : Int32 → IT → XT → Prop} {l0 : Int32} 
    (H : (¬ l0 = 36 →
        K 0 I X) ∧
      (l0 = 36 →
        K 1 I X)) : CI g (d + 1) iX11_isNone [.int l0] I X K := by
  refine ocall_of (by decide) (Nat.le_of_ble_eq_true rfl) ?_
  show SR g (d + 1) iX11_isNone 0 [(0, .int l0)] I X (qI K)
  refine r_iload_n (n := 1) 0 dX11_isNone_0 rfl rfl ?_
  refine r_bipush (n := 3) (v := 36) dX11_isNone_1 kb_36 rfl ?_
  refine r_icmp_ne (n := 6) (tgt := 10) dX11_isNone_3 (by decide) rfl (fun c => ?_) (fun c => ?_)
  · have H := H.1 c
    refine r_iconst (n := 11) (v := 0) dX11_isNone_10 ki_0 rfl ?_
    exact rs_zret dX11_isNone_11 rfl (by decide) H
  · have H := H.2 c
    refine r_iconst (n := 7) (v := 1) dX11_isNone_6 ki_1 rfl ?_
    refine r_goto (n := 11) dX11_isNone_7 (by decide) ?_
    exact rs_zret dX11_isNone_11 rfl (by decide) H
set_option maxRecDepth 20000 in
theorem en_X11_canMove {g : OG} {d : Nat} {I : IT} {X : XT} {K : Int32 → IT → XT → Prop} {l1 : Int32} {l2 : Int32} 
    (H : CI g d iX11_isNone [.int l2] I X (fun r1 I2 X3 =>
        (¬ r1 = 0 →
          K 1 I2 X3) ∧
        (r1 = 0 →
          ((I2 129 10) ≤ (l2 / 6) →
            K 0 I2 X3) ∧
          (¬ (I2 129 10) ≤ (l2 / 6) →
            ((I2 129 10) ≤ (l2 - l2 / 6 * 6) →
              K 0 I2 X3) ∧
            (¬ (I2 129 10) ≤ (l2 - l2 / 6 * 6) →
              CI g d iX11_canCarry [rf g 129, .int l1, .int (l2 / 6), .int (l2 - l2 / 6 * 6)] I2 X3 (fun r4 I5 X6 =>
                (r4 = 0 →
                  K 0 I5 X6) ∧
                (¬ r4 = 0 →
                  K 1 I5 X6))))))) : CI g (d + 1) iX11_canMove [rf g 129, .int l1, .int l2] I X K := by
  refine ocall_of (by decide) (Nat.le_of_ble_eq_true rfl) ?_
  show SR g (d + 1) iX11_canMove 0 [(0, rf g 129), (1, .int l1), (2, .int l2)] I X (qI K)
  refine r_iload_n (n := 1) 2 dX11_canMove_0 rfl rfl ?_
  refine rs_cSi (n := 4) (rest := []) (As := [.int _]) sm_X11_isNone gw_1415 dX11_canMove_1 rfl rfl (Nat.le_of_ble_eq_true rfl) rfl (CI.mono H (fun r1 I2 X3 H => ?_))
  refine r_if_ne (n := 7) (tgt := 45) dX11_canMove_4 (by decide) rfl (fun c => ?_) (fun c => ?_)
  · have H := H.1 c
    refine r_iconst (n := 46) (v := 1) dX11_canMove_45 ki_1 rfl ?_
    refine r_goto (n := 50) dX11_canMove_46 (by decide) ?_
    exact rs_zret dX11_canMove_50 rfl (by decide) H
  · have H := H.2 c
    refine r_iload_n (n := 8) 2 dX11_canMove_7 rfl rfl ?_
    refine r_bipush (n := 10) (v := 6) dX11_canMove_8 kb_6 rfl ?_
    refine r_idiv (n := 11) dX11_canMove_10 (by decide) rfl ?_
    refine r_aload_n (n := 12) 0 dX11_canMove_11 rfl rfl ?_
    refine rs_getI (n := 15) cls_10 10 fi_10_10 so_129 gw_1036 dX11_canMove_12 rfl ?_
    refine r_icmp_ge (n := 18) (tgt := 49) dX11_canMove_15 (by decide) rfl (fun c => ?_) (fun c => ?_)
    · have H := H.1 c
      refine r_iconst (n := 50) (v := 0) dX11_canMove_49 ki_0 rfl ?_
      exact rs_zret dX11_canMove_50 rfl (by decide) H
    · have H := H.2 c
      refine r_iload_n (n := 19) 2 dX11_canMove_18 rfl rfl ?_
      refine r_bipush (n := 21) (v := 6) dX11_canMove_19 kb_6 rfl ?_
      refine r_irem (n := 22) dX11_canMove_21 (by decide) rfl ?_
      refine r_aload_n (n := 23) 0 dX11_canMove_22 rfl rfl ?_
      refine rs_getI (n := 26) cls_10 10 fi_10_10 so_129 gw_1036 dX11_canMove_23 rfl ?_
      refine r_icmp_ge (n := 29) (tgt := 49) dX11_canMove_26 (by decide) rfl (fun c => ?_) (fun c => ?_)
      · have H := H.1 c
        refine r_iconst (n := 50) (v := 0) dX11_canMove_49 ki_0 rfl ?_
        exact rs_zret dX11_canMove_50 rfl (by decide) H
      · have H := H.2 c
        refine r_aload_n (n := 30) 0 dX11_canMove_29 rfl rfl ?_
        refine r_iload_n (n := 31) 1 dX11_canMove_30 rfl rfl ?_
        refine r_iload_n (n := 32) 2 dX11_canMove_31 rfl rfl ?_
        refine r_bipush (n := 34) (v := 6) dX11_canMove_32 kb_6 rfl ?_
        refine r_idiv (n := 35) dX11_canMove_34 (by decide) rfl ?_
        refine r_iload_n (n := 36) 2 dX11_canMove_35 rfl rfl ?_
        refine r_bipush (n := 38) (v := 6) dX11_canMove_36 kb_6 rfl ?_
        refine r_irem (n := 39) dX11_canMove_38 (by decide) rfl ?_
        refine rs_cVi (n := 42) (rest := []) (As := [.int _, .int _, .int _]) vm_X11_canCarry gw_1302 so_129 cq_10 dX11_canMove_39 rfl rfl (Nat.le_of_ble_eq_true rfl) rfl (CI.mono H (fun r4 I5 X6 H => ?_))
        refine r_if_eq (n := 45) (tgt := 49) dX11_canMove_42 (by decide) rfl (fun c => ?_) (fun c => ?_)
        · have H := H.1 c
          refine r_iconst (n := 50) (v := 0) dX11_canMove_49 ki_0 rfl ?_
          exact rs_zret dX11_canMove_50 rfl (by decide) H
        · have H := H.2 c
          refine r_iconst (n := 46) (v := 1) dX11_canMove_45 ki_1 rfl ?_
          refine r_goto (n := 50) dX11_canMove_46 (by decide) ?_
          exact rs_zret dX11_canMove_50 rfl (by decide) H
set_option maxRecDepth 20000 in
theorem en_X11_takes {g : OG} {d : Nat} {I : IT} {X : XT} {K : IT → XT → Prop} {l1 : Int32} 
    (H : ∀ I1 : IT, I1 = set2 I 129 31 1 →
      SR g (d + 1) iX11_takes 7 [(0, rf g 129), (1, .int l1), (2, .int 0)] I1 X (qV K)) : CV g (d + 1) iX11_takes [rf g 129, .int l1] I X K := by
  refine ocall_of (by decide) (Nat.le_of_ble_eq_true rfl) ?_
  show SR g (d + 1) iX11_takes 0 [(0, rf g 129), (1, .int l1)] I X (qV K)
  refine r_aload_n (n := 1) 0 dX11_takes_0 rfl rfl ?_
  refine r_iconst (n := 2) (v := 1) dX11_takes_1 ki_1 rfl ?_
  have H := H _ rfl
  refine rs_putZ (n := 5) (by decide) cls_10 31 fp_10_31 so_129 gw_1057 dX11_takes_2 rfl ?_
  refine r_iconst (n := 6) (v := 0) dX11_takes_5 ki_0 rfl ?_
  refine r_istore_n (n := 7) (lv' := [(2, .int _), (0, .ref _), (1, .int _)]) dX11_takes_6 rfl (by decide) rfl rfl ?_
  exact r_sub [1, 2, 0] rfl H
set_option maxRecDepth 20000 in
theorem rg_X11_takes_7 {g : OG} {d : Nat} {I : IT} {X : XT} {K : IT → XT → Prop} {l1 : Int32} {l2 : Int32} 
    (H : (l1 ≤ l2 →
        K I X) ∧
      (¬ l1 ≤ l2 →
        vp_in l2 10 ∧
        vp_in l2 10 ∧
        ∀ I3 : IT, I3 = set2 I 150 l2.toNatClampNeg (I 149 l2.toNatClampNeg) →
        ∀ x4 : Int32, x4 = l2 + 1 →
        SR g (d + 1) iX11_takes 7 [(0, rf g 129), (1, .int l1), (2, .int x4)] I3 X (qV K))) : SR g (d + 1) iX11_takes 7 [(0, rf g 129), (1, .int l1), (2, .int l2)] I X (qV K) := by
  refine r_iload_n (n := 8) 2 dX11_takes_7 rfl rfl ?_
  refine r_iload_n (n := 9) 1 dX11_takes_8 rfl rfl ?_
  refine r_icmp_ge (n := 12) (tgt := 30) dX11_takes_9 (by decide) rfl (fun c => ?_) (fun c => ?_)
  · have H := H.1 c
    exact rs_vret dX11_takes_30 rfl H
  · have H := H.2 c
    refine r_aload_n (n := 13) 0 dX11_takes_12 rfl rfl ?_
    refine r_getR (n := 16) cls_10 30 fi_10_30 so_129 gw_1056 dX11_takes_13 rfl sr_129_30 (by decide) ?_
    refine r_iload_n (n := 17) 2 dX11_takes_16 rfl rfl ?_
    refine r_aload_n (n := 18) 0 dX11_takes_17 rfl rfl ?_
    refine r_getR (n := 21) cls_10 29 fi_10_29 so_129 gw_1055 dX11_takes_18 rfl sr_129_29 (by decide) ?_
    refine r_iload_n (n := 22) 2 dX11_takes_21 rfl rfl ?_
    obtain ⟨hi1, H⟩ := H
    refine rs_iald (n := 23) sa_149 hi1 dX11_takes_22 rfl ?_
    obtain ⟨hi2, H⟩ := H
    have H := H _ rfl
    refine rs_iast (n := 24) sa_150 hi2 dX11_takes_23 rfl ?_
    have H := H _ rfl
    refine r_iinc (n := 27) (lv' := [(2, .int _), (0, .ref _), (1, .int _)]) 2 dX11_takes_24 rfl rfl (by decide) rfl rfl ?_
    refine r_goto (n := 7) dX11_takes_27 (by decide) ?_
    exact r_sub [1, 2, 0] rfl H
set_option maxRecDepth 20000 in
theorem en_X11_ends {g : OG} {d : Nat} {I : IT} {X : XT} {K : IT → XT → Prop} {l1 : Int32} {l2 : Int32} {l3 : Int32} 
    (H : CI g d iX11_burning [rf g 129, .int l3] I X (fun r1 I2 X3 =>
        ∀ I4 : IT, I4 = set2 I2 129 34 ((I2 129 34) + 1) →
        ∀ I5 : IT, I5 = set2 I4 129 33 ((I4 129 33) ||| r1) →
        CI g d iX11_has [.int r1, .int (I5 129 36)] I5 X3 (fun r6 I7 X8 =>
          (r6 = 0 →
            ∀ I9 : IT, I9 = set2 I7 129 35 ((I5 129 35) + 0) →
            (l1 = 1 →
              (¬ (I9 129 31) = 0 →
                K I9 X8) ∧
              ((I9 129 31) = 0 →
                CI g d iX11_has [.int r1, .int (I9 129 36)] I9 X8 (fun r11 I12 X13 =>
                  (r11 = 0 →
                    K I12 X13) ∧
                  (¬ r11 = 0 →
                    CV g d iX11_takes [rf g 129, .int l2] I12 X13 (fun I14 X15 =>
                      K I14 X15))))) ∧
            (¬ l1 = 1 →
              (l1 = 2 →
              K I9 X8) ∧
            (¬ l1 = 2 →
              (l1 = 3 →
              CI g d iX11_bits [.int r1] I9 X8 (fun r18 I19 X20 =>
                (r18 ≤ (I19 129 32) →
                  K I19 X20) ∧
                (¬ r18 ≤ (I19 129 32) →
                  CI g d iX11_bits [.int r1] I19 X20 (fun r21 I22 X23 =>
                    ∀ I24 : IT, I24 = set2 I22 129 32 r21 →
                    CV g d iX11_takes [rf g 129, .int l2] I24 X23 (fun I25 X26 =>
                      K I25 X26))))) ∧
            (¬ l1 = 3 →
              (l1 = 4 →
              (¬ (I9 129 31) = 0 →
                K I9 X8) ∧
              ((I9 129 31) = 0 →
                CI g d iX11_isServed [rf g 129, .int l3] I9 X8 (fun r28 I29 X30 =>
                  (r28 = 0 →
                    K I29 X30) ∧
                  (¬ r28 = 0 →
                    CV g d iX11_takes [rf g 129, .int l2] I29 X30 (fun I31 X32 =>
                      K I31 X32))))) ∧
            (¬ l1 = 4 →
              K I9 X8))))) ∧
          (¬ r6 = 0 →
            ∀ I33 : IT, I33 = set2 I7 129 35 ((I5 129 35) + 1) →
            (l1 = 1 →
              (¬ (I33 129 31) = 0 →
                K I33 X8) ∧
              ((I33 129 31) = 0 →
                CI g d iX11_has [.int r1, .int (I33 129 36)] I33 X8 (fun r35 I36 X37 =>
                  (r35 = 0 →
                    K I36 X37) ∧
                  (¬ r35 = 0 →
                    CV g d iX11_takes [rf g 129, .int l2] I36 X37 (fun I38 X39 =>
                      K I38 X39))))) ∧
            (¬ l1 = 1 →
              (l1 = 2 →
              K I33 X8) ∧
            (¬ l1 = 2 →
              (l1 = 3 →
              CI g d iX11_bits [.int r1] I33 X8 (fun r42 I43 X44 =>
                (r42 ≤ (I43 129 32) →
                  K I43 X44) ∧
                (¬ r42 ≤ (I43 129 32) →
                  CI g d iX11_bits [.int r1] I43 X44 (fun r45 I46 X47 =>
                    ∀ I48 : IT, I48 = set2 I46 129 32 r45 →
                    CV g d iX11_takes [rf g 129, .int l2] I48 X47 (fun I49 X50 =>
                      K I49 X50))))) ∧
            (¬ l1 = 3 →
              (l1 = 4 →
              (¬ (I33 129 31) = 0 →
                K I33 X8) ∧
              ((I33 129 31) = 0 →
                CI g d iX11_isServed [rf g 129, .int l3] I33 X8 (fun r52 I53 X54 =>
                  (r52 = 0 →
                    K I53 X54) ∧
                  (¬ r52 = 0 →
                    CV g d iX11_takes [rf g 129, .int l2] I53 X54 (fun I55 X56 =>
                      K I55 X56))))) ∧
            (¬ l1 = 4 →
              K I33 X8)))))))) : CV g (d + 1) iX11_ends [rf g 129, .int l1, .int l2, .int l3] I X K := by
  refine ocall_of (by decide) (Nat.le_of_ble_eq_true rfl) ?_
  show SR g (d + 1) iX11_ends 0 [(0, rf g 129), (1, .int l1), (2, .int l2), (3, .int l3)] I X (qV K)
  refine r_aload_n (n := 1) 0 dX11_ends_0 rfl rfl ?_
  refine r_iload_n (n := 2) 3 dX11_ends_1 rfl rfl ?_
  refine rs_cVi (n := 5) (rest := []) (As := [.int _]) vm_X11_burning gw_1321 so_129 cq_10 dX11_ends_2 rfl rfl (Nat.le_of_ble_eq_true rfl) rfl (CI.mono H (fun r1 I2 X3 H => ?_))
  refine r_istore (n := 7) (lv' := [(4, .int _), (0, .ref _), (1, .int _), (2, .int _), (3, .int _)]) dX11_ends_5 (by decide) rfl rfl ?_
  refine r_aload_n (n := 8) 1 dX11_ends_7 rfl rfl ?_
  refine r_dup (n := 9) dX11_ends_8 rfl rfl ?_
  refine rs_getI (n := 12) cls_10 34 fi_10_34 so_129 gw_1060 dX11_ends_9 rfl ?_
  refine r_iconst (n := 13) (v := 1) dX11_ends_12 ki_1 rfl ?_
  refine r_iadd (n := 14) dX11_ends_13 rfl ?_
  have H := H _ rfl
  refine rs_putI (n := 17) cls_10 34 fp_10_34 so_129 gw_1060 dX11_ends_14 rfl ?_
  refine r_aload_n (n := 18) 1 dX11_ends_17 rfl rfl ?_
  refine r_dup (n := 19) dX11_ends_18 rfl rfl ?_
  refine rs_getI (n := 22) cls_10 33 fi_10_33 so_129 gw_1059 dX11_ends_19 rfl ?_
  refine r_iload (n := 24) 0 dX11_ends_22 rfl rfl ?_
  refine r_ior (n := 25) dX11_ends_24 rfl ?_
  have H := H _ rfl
  refine rs_putI (n := 28) cls_10 33 fp_10_33 so_129 gw_1059 dX11_ends_25 rfl ?_
  refine r_aload_n (n := 29) 1 dX11_ends_28 rfl rfl ?_
  refine r_dup (n := 30) dX11_ends_29 rfl rfl ?_
  refine rs_getI (n := 33) cls_10 35 fi_10_35 so_129 gw_1061 dX11_ends_30 rfl ?_
  refine r_iload (n := 35) 0 dX11_ends_33 rfl rfl ?_
  refine r_aload_n (n := 36) 1 dX11_ends_35 rfl rfl ?_
  refine rs_getI (n := 39) cls_10 36 fi_10_36 so_129 gw_1062 dX11_ends_36 rfl ?_
  refine rs_cSi (n := 42) (rest := [.int _, .ref _]) (As := [.int _, .int _]) sm_X11_has gw_1336 dX11_ends_39 rfl rfl (Nat.le_of_ble_eq_true rfl) rfl (CI.mono H (fun r6 I7 X8 H => ?_))
  refine r_if_eq (n := 45) (tgt := 49) dX11_ends_42 (by decide) rfl (fun c => ?_) (fun c => ?_)
  · have H := H.1 c
    refine r_iconst (n := 50) (v := 0) dX11_ends_49 ki_0 rfl ?_
    refine r_iadd (n := 51) dX11_ends_50 rfl ?_
    have H := H _ rfl
    refine rs_putI (n := 54) cls_10 35 fp_10_35 so_129 gw_1061 dX11_ends_51 rfl ?_
    refine r_iload_n (n := 55) 2 dX11_ends_54 rfl rfl ?_
    refine sw_split H (fun cs10 H => ?_) (fun cs10 H => ?_)
    · refine r_tcase (n := 84) (v := 1) (off := 29) dX11_ends_55 cs10 (by decide) (by decide) (by decide) ?_
      refine r_aload_n (n := 85) 1 dX11_ends_84 rfl rfl ?_
      refine rs_getI (n := 88) cls_10 31 fi_10_31 so_129 gw_1057 dX11_ends_85 rfl ?_
      refine r_if_ne (n := 91) (tgt := 163) dX11_ends_88 (by decide) rfl (fun c => ?_) (fun c => ?_)
      · have H := H.1 c
        exact rs_vret dX11_ends_163 rfl H
      · have H := H.2 c
        refine r_iload (n := 93) 0 dX11_ends_91 rfl rfl ?_
        refine r_aload_n (n := 94) 1 dX11_ends_93 rfl rfl ?_
        refine rs_getI (n := 97) cls_10 36 fi_10_36 so_129 gw_1062 dX11_ends_94 rfl ?_
        refine rs_cSi (n := 100) (rest := []) (As := [.int _, .int _]) sm_X11_has gw_1336 dX11_ends_97 rfl rfl (Nat.le_of_ble_eq_true rfl) rfl (CI.mono H (fun r11 I12 X13 H => ?_))
        refine r_if_eq (n := 103) (tgt := 163) dX11_ends_100 (by decide) rfl (fun c => ?_) (fun c => ?_)
        · have H := H.1 c
          exact rs_vret dX11_ends_163 rfl H
        · have H := H.2 c
          refine r_aload_n (n := 104) 1 dX11_ends_103 rfl rfl ?_
          refine r_iload_n (n := 105) 3 dX11_ends_104 rfl rfl ?_
          refine rs_cVv (n := 108) (rest := []) (As := [.int _]) vm_X11_takes gw_1403 so_129 cq_10 dX11_ends_105 rfl rfl (Nat.le_of_ble_eq_true rfl) rfl (CV.mono H (fun I14 X15 H => ?_))
          refine r_goto (n := 163) dX11_ends_108 (by decide) ?_
          exact rs_vret dX11_ends_163 rfl H
    · skip
      refine sw_split H (fun cs16 H => ?_) (fun cs16 H => ?_)
      · refine r_tcase (n := 163) (v := 2) (off := 108) dX11_ends_55 cs16 (by decide) (by decide) (by decide) ?_
        exact rs_vret dX11_ends_163 rfl H
      · skip
        refine sw_split H (fun cs17 H => ?_) (fun cs17 H => ?_)
        · refine r_tcase (n := 111) (v := 3) (off := 56) dX11_ends_55 cs17 (by decide) (by decide) (by decide) ?_
          refine r_iload (n := 113) 0 dX11_ends_111 rfl rfl ?_
          refine rs_cSi (n := 116) (rest := []) (As := [.int _]) sm_X11_bits gw_1325 dX11_ends_113 rfl rfl (Nat.le_of_ble_eq_true rfl) rfl (CI.mono H (fun r18 I19 X20 H => ?_))
          refine r_aload_n (n := 117) 1 dX11_ends_116 rfl rfl ?_
          refine rs_getI (n := 120) cls_10 32 fi_10_32 so_129 gw_1058 dX11_ends_117 rfl ?_
          refine r_icmp_le (n := 123) (tgt := 163) dX11_ends_120 (by decide) rfl (fun c => ?_) (fun c => ?_)
          · have H := H.1 c
            exact rs_vret dX11_ends_163 rfl H
          · have H := H.2 c
            refine r_aload_n (n := 124) 1 dX11_ends_123 rfl rfl ?_
            refine r_iload (n := 126) 0 dX11_ends_124 rfl rfl ?_
            refine rs_cSi (n := 129) (rest := [.ref _]) (As := [.int _]) sm_X11_bits gw_1325 dX11_ends_126 rfl rfl (Nat.le_of_ble_eq_true rfl) rfl (CI.mono H (fun r21 I22 X23 H => ?_))
            have H := H _ rfl
            refine rs_putI (n := 132) cls_10 32 fp_10_32 so_129 gw_1058 dX11_ends_129 rfl ?_
            refine r_aload_n (n := 133) 1 dX11_ends_132 rfl rfl ?_
            refine r_iload_n (n := 134) 3 dX11_ends_133 rfl rfl ?_
            refine rs_cVv (n := 137) (rest := []) (As := [.int _]) vm_X11_takes gw_1403 so_129 cq_10 dX11_ends_134 rfl rfl (Nat.le_of_ble_eq_true rfl) rfl (CV.mono H (fun I25 X26 H => ?_))
            refine r_goto (n := 163) dX11_ends_137 (by decide) ?_
            exact rs_vret dX11_ends_163 rfl H
        · skip
          refine sw_split H (fun cs27 H => ?_) (fun cs27 H => ?_)
          · refine r_tcase (n := 140) (v := 4) (off := 85) dX11_ends_55 cs27 (by decide) (by decide) (by decide) ?_
            refine r_aload_n (n := 141) 1 dX11_ends_140 rfl rfl ?_
            refine rs_getI (n := 144) cls_10 31 fi_10_31 so_129 gw_1057 dX11_ends_141 rfl ?_
            refine r_if_ne (n := 147) (tgt := 163) dX11_ends_144 (by decide) rfl (fun c => ?_) (fun c => ?_)
            · have H := H.1 c
              exact rs_vret dX11_ends_163 rfl H
            · have H := H.2 c
              refine r_aload_n (n := 148) 1 dX11_ends_147 rfl rfl ?_
              refine r_iload_n (n := 149) 4 dX11_ends_148 rfl rfl ?_
              refine rs_cVi (n := 152) (rest := []) (As := [.int _]) vm_X11_isServed gw_1407 so_129 cq_10 dX11_ends_149 rfl rfl (Nat.le_of_ble_eq_true rfl) rfl (CI.mono H (fun r28 I29 X30 H => ?_))
              refine r_if_eq (n := 155) (tgt := 163) dX11_ends_152 (by decide) rfl (fun c => ?_) (fun c => ?_)
              · have H := H.1 c
                exact rs_vret dX11_ends_163 rfl H
              · have H := H.2 c
                refine r_aload_n (n := 156) 1 dX11_ends_155 rfl rfl ?_
                refine r_iload_n (n := 157) 3 dX11_ends_156 rfl rfl ?_
                refine rs_cVv (n := 160) (rest := []) (As := [.int _]) vm_X11_takes gw_1403 so_129 cq_10 dX11_ends_157 rfl rfl (Nat.le_of_ble_eq_true rfl) rfl (CV.mono H (fun I31 X32 H => ?_))
                refine r_goto (n := 163) dX11_ends_160 (by decide) ?_
                exact rs_vret dX11_ends_163 rfl H
          · skip
            refine r_tout (n := 163) dX11_ends_55 (by have e0 := lv_neT cs10 (a := 1) (by decide); have e1 := lv_neT cs16 (a := 2) (by decide); have e2 := lv_neT cs17 (a := 3) (by decide); have e3 := lv_neT cs27 (a := 4) (by decide); omega) (by decide) ?_
            exact rs_vret dX11_ends_163 rfl H
  · have H := H.2 c
    refine r_iconst (n := 46) (v := 1) dX11_ends_45 ki_1 rfl ?_
    refine r_goto (n := 50) dX11_ends_46 (by decide) ?_
    refine r_iadd (n := 51) dX11_ends_50 rfl ?_
    have H := H _ rfl
    refine rs_putI (n := 54) cls_10 35 fp_10_35 so_129 gw_1061 dX11_ends_51 rfl ?_
    refine r_iload_n (n := 55) 2 dX11_ends_54 rfl rfl ?_
    refine sw_split H (fun cs34 H => ?_) (fun cs34 H => ?_)
    · refine r_tcase (n := 84) (v := 1) (off := 29) dX11_ends_55 cs34 (by decide) (by decide) (by decide) ?_
      refine r_aload_n (n := 85) 1 dX11_ends_84 rfl rfl ?_
      refine rs_getI (n := 88) cls_10 31 fi_10_31 so_129 gw_1057 dX11_ends_85 rfl ?_
      refine r_if_ne (n := 91) (tgt := 163) dX11_ends_88 (by decide) rfl (fun c => ?_) (fun c => ?_)
      · have H := H.1 c
        exact rs_vret dX11_ends_163 rfl H
      · have H := H.2 c
        refine r_iload (n := 93) 0 dX11_ends_91 rfl rfl ?_
        refine r_aload_n (n := 94) 1 dX11_ends_93 rfl rfl ?_
        refine rs_getI (n := 97) cls_10 36 fi_10_36 so_129 gw_1062 dX11_ends_94 rfl ?_
        refine rs_cSi (n := 100) (rest := []) (As := [.int _, .int _]) sm_X11_has gw_1336 dX11_ends_97 rfl rfl (Nat.le_of_ble_eq_true rfl) rfl (CI.mono H (fun r35 I36 X37 H => ?_))
        refine r_if_eq (n := 103) (tgt := 163) dX11_ends_100 (by decide) rfl (fun c => ?_) (fun c => ?_)
        · have H := H.1 c
          exact rs_vret dX11_ends_163 rfl H
        · have H := H.2 c
          refine r_aload_n (n := 104) 1 dX11_ends_103 rfl rfl ?_
          refine r_iload_n (n := 105) 3 dX11_ends_104 rfl rfl ?_
          refine rs_cVv (n := 108) (rest := []) (As := [.int _]) vm_X11_takes gw_1403 so_129 cq_10 dX11_ends_105 rfl rfl (Nat.le_of_ble_eq_true rfl) rfl (CV.mono H (fun I38 X39 H => ?_))
          refine r_goto (n := 163) dX11_ends_108 (by decide) ?_
          exact rs_vret dX11_ends_163 rfl H
    · skip
      refine sw_split H (fun cs40 H => ?_) (fun cs40 H => ?_)
      · refine r_tcase (n := 163) (v := 2) (off := 108) dX11_ends_55 cs40 (by decide) (by decide) (by decide) ?_
        exact rs_vret dX11_ends_163 rfl H
      · skip
        refine sw_split H (fun cs41 H => ?_) (fun cs41 H => ?_)
        · refine r_tcase (n := 111) (v := 3) (off := 56) dX11_ends_55 cs41 (by decide) (by decide) (by decide) ?_
          refine r_iload (n := 113) 0 dX11_ends_111 rfl rfl ?_
          refine rs_cSi (n := 116) (rest := []) (As := [.int _]) sm_X11_bits gw_1325 dX11_ends_113 rfl rfl (Nat.le_of_ble_eq_true rfl) rfl (CI.mono H (fun r42 I43 X44 H => ?_))
          refine r_aload_n (n := 117) 1 dX11_ends_116 rfl rfl ?_
          refine rs_getI (n := 120) cls_10 32 fi_10_32 so_129 gw_1058 dX11_ends_117 rfl ?_
          refine r_icmp_le (n := 123) (tgt := 163) dX11_ends_120 (by decide) rfl (fun c => ?_) (fun c => ?_)
          · have H := H.1 c
            exact rs_vret dX11_ends_163 rfl H
          · have H := H.2 c
            refine r_aload_n (n := 124) 1 dX11_ends_123 rfl rfl ?_
            refine r_iload (n := 126) 0 dX11_ends_124 rfl rfl ?_
            refine rs_cSi (n := 129) (rest := [.ref _]) (As := [.int _]) sm_X11_bits gw_1325 dX11_ends_126 rfl rfl (Nat.le_of_ble_eq_true rfl) rfl (CI.mono H (fun r45 I46 X47 H => ?_))
            have H := H _ rfl
            refine rs_putI (n := 132) cls_10 32 fp_10_32 so_129 gw_1058 dX11_ends_129 rfl ?_
            refine r_aload_n (n := 133) 1 dX11_ends_132 rfl rfl ?_
            refine r_iload_n (n := 134) 3 dX11_ends_133 rfl rfl ?_
            refine rs_cVv (n := 137) (rest := []) (As := [.int _]) vm_X11_takes gw_1403 so_129 cq_10 dX11_ends_134 rfl rfl (Nat.le_of_ble_eq_true rfl) rfl (CV.mono H (fun I49 X50 H => ?_))
            refine r_goto (n := 163) dX11_ends_137 (by decide) ?_
            exact rs_vret dX11_ends_163 rfl H
        · skip
          refine sw_split H (fun cs51 H => ?_) (fun cs51 H => ?_)
          · refine r_tcase (n := 140) (v := 4) (off := 85) dX11_ends_55 cs51 (by decide) (by decide) (by decide) ?_
            refine r_aload_n (n := 141) 1 dX11_ends_140 rfl rfl ?_
            refine rs_getI (n := 144) cls_10 31 fi_10_31 so_129 gw_1057 dX11_ends_141 rfl ?_
            refine r_if_ne (n := 147) (tgt := 163) dX11_ends_144 (by decide) rfl (fun c => ?_) (fun c => ?_)
            · have H := H.1 c
              exact rs_vret dX11_ends_163 rfl H
            · have H := H.2 c
              refine r_aload_n (n := 148) 1 dX11_ends_147 rfl rfl ?_
              refine r_iload_n (n := 149) 4 dX11_ends_148 rfl rfl ?_
              refine rs_cVi (n := 152) (rest := []) (As := [.int _]) vm_X11_isServed gw_1407 so_129 cq_10 dX11_ends_149 rfl rfl (Nat.le_of_ble_eq_true rfl) rfl (CI.mono H (fun r52 I53 X54 H => ?_))
              refine r_if_eq (n := 155) (tgt := 163) dX11_ends_152 (by decide) rfl (fun c => ?_) (fun c => ?_)
              · have H := H.1 c
                exact rs_vret dX11_ends_163 rfl H
              · have H := H.2 c
                refine r_aload_n (n := 156) 1 dX11_ends_155 rfl rfl ?_
                refine r_iload_n (n := 157) 3 dX11_ends_156 rfl rfl ?_
                refine rs_cVv (n := 160) (rest := []) (As := [.int _]) vm_X11_takes gw_1403 so_129 cq_10 dX11_ends_157 rfl rfl (Nat.le_of_ble_eq_true rfl) rfl (CV.mono H (fun I55 X56 H => ?_))
                refine r_goto (n := 163) dX11_ends_160 (by decide) ?_
                exact rs_vret dX11_ends_163 rfl H
          · skip
            refine r_tout (n := 163) dX11_ends_55 (by have e0 := lv_neT cs34 (a := 1) (by decide); have e1 := lv_neT cs40 (a := 2) (by decide); have e2 := lv_neT cs41 (a := 3) (by decide); have e3 := lv_neT cs51 (a := 4) (by decide); omega) (by decide) ?_
            exact rs_vret dX11_ends_163 rfl H
set_option maxRecDepth 20000 in
theorem en_X11_isServed {g : OG} {d : Nat} {I : IT} {X : XT} {K : Int32 → IT → XT → Prop} {l1 : Int32} 
    (H : SR g (d + 1) iX11_isServed 4 [(0, rf g 129), (1, .int l1), (2, .int 1), (3, .int 0)] I X (qI K)) : CI g (d + 1) iX11_isServed [rf g 129, .int l1] I X K := by
  refine ocall_of (by decide) (Nat.le_of_ble_eq_true rfl) ?_
  show SR g (d + 1) iX11_isServed 0 [(0, rf g 129), (1, .int l1)] I X (qI K)
  refine r_iconst (n := 1) (v := 1) dX11_isServed_0 ki_1 rfl ?_
  refine r_istore_n (n := 2) (lv' := [(2, .int _), (0, .ref _), (1, .int _)]) dX11_isServed_1 rfl (by decide) rfl rfl ?_
  refine r_iconst (n := 3) (v := 0) dX11_isServed_2 ki_0 rfl ?_
  refine r_istore_n (n := 4) (lv' := [(3, .int _), (2, .int _), (0, .ref _), (1, .int _)]) dX11_isServed_3 rfl (by decide) rfl rfl ?_
  exact r_sub [2, 3, 1, 0] rfl H
set_option maxRecDepth 20000 in
theorem rg_X11_isServed_4 {g : OG} {d : Nat} {I : IT} {X : XT} {K : Int32 → IT → XT → Prop} {l1 : Int32} {l2 : Int32} {l3 : Int32} 
    (H : ((I 129 10) ≤ l3 →
        (l2 = 0 ∨ l2 = 1) ∧ K l2 I X) ∧
      (¬ (I 129 10) ≤ l3 →
        (l2 = 0 →
          ∀ x1 : Int32, x1 = l3 + 1 →
          SR g (d + 1) iX11_isServed 4 [(0, rf g 129), (1, .int l1), (2, .int 0), (3, .int x1)] I X (qI K)) ∧
        (¬ l2 = 0 →
          vp_in l3 5 ∧
          CI g d iX11_hourOf [rf g 129, .int l1] I X (fun r3 I4 X5 =>
            (¬ (I 138 l3.toNatClampNeg) = r3 →
              ∀ x6 : Int32, x6 = l3 + 1 →
              SR g (d + 1) iX11_isServed 4 [(0, rf g 129), (1, .int l1), (2, .int 1), (3, .int x6)] I4 X5 (qI K)) ∧
            ((I 138 l3.toNatClampNeg) = r3 →
              CI g d iX11_isBurning [rf g 129, .int l1, .int l3] I4 X5 (fun r7 I8 X9 =>
                (r7 = 0 →
                  ∀ x10 : Int32, x10 = l3 + 1 →
                  SR g (d + 1) iX11_isServed 4 [(0, rf g 129), (1, .int l1), (2, .int 0), (3, .int x10)] I8 X9 (qI K)) ∧
                (¬ r7 = 0 →
                  ∀ x11 : Int32, x11 = l3 + 1 →
                  SR g (d + 1) iX11_isServed 4 [(0, rf g 129), (1, .int l1), (2, .int 1), (3, .int x11)] I8 X9 (qI K)))))))) : SR g (d + 1) iX11_isServed 4 [(0, rf g 129), (1, .int l1), (2, .int l2), (3, .int l3)] I X (qI K) := by
  refine r_iload_n (n := 5) 3 dX11_isServed_4 rfl rfl ?_
  refine r_aload_n (n := 6) 0 dX11_isServed_5 rfl rfl ?_
  refine rs_getI (n := 9) cls_10 10 fi_10_10 so_129 gw_1036 dX11_isServed_6 rfl ?_
  refine r_icmp_ge (n := 12) (tgt := 51) dX11_isServed_9 (by decide) rfl (fun c => ?_) (fun c => ?_)
  · have H := H.1 c
    refine r_iload_n (n := 52) 2 dX11_isServed_51 rfl rfl ?_
    exact rs_zret dX11_isServed_52 rfl H.1 H.2
  · have H := H.2 c
    refine r_iload_n (n := 13) 2 dX11_isServed_12 rfl rfl ?_
    refine r_if_eq (n := 16) (tgt := 43) dX11_isServed_13 (by decide) rfl (fun c => ?_) (fun c => ?_)
    · have H := H.1 c
      refine r_iconst (n := 44) (v := 0) dX11_isServed_43 ki_0 rfl ?_
      refine r_istore_n (n := 45) (lv' := [(2, .int _), (0, .ref _), (1, .int _), (3, .int _)]) dX11_isServed_44 rfl (by decide) rfl rfl ?_
      have H := H _ rfl
      refine r_iinc (n := 48) (lv' := [(3, .int _), (2, .int _), (0, .ref _), (1, .int _)]) 3 dX11_isServed_45 rfl rfl (by decide) rfl rfl ?_
      refine r_goto (n := 4) dX11_isServed_48 (by decide) ?_
      exact r_sub [2, 3, 1, 0] rfl H
    · have H := H.2 c
      refine r_aload_n (n := 17) 0 dX11_isServed_16 rfl rfl ?_
      refine r_getR (n := 20) cls_10 14 fi_10_14 so_129 gw_1040 dX11_isServed_17 rfl sr_129_14 (by decide) ?_
      refine r_iload_n (n := 21) 3 dX11_isServed_20 rfl rfl ?_
      obtain ⟨hi2, H⟩ := H
      refine rs_iald (n := 22) sa_138 hi2 dX11_isServed_21 rfl ?_
      refine r_aload_n (n := 23) 0 dX11_isServed_22 rfl rfl ?_
      refine r_iload_n (n := 24) 1 dX11_isServed_23 rfl rfl ?_
      refine rs_cVi (n := 27) (rest := [.int _]) (As := [.int _]) vm_X11_hourOf gw_1313 so_129 cq_10 dX11_isServed_24 rfl rfl (Nat.le_of_ble_eq_true rfl) rfl (CI.mono H (fun r3 I4 X5 H => ?_))
      refine r_icmp_ne (n := 30) (tgt := 39) dX11_isServed_27 (by decide) rfl (fun c => ?_) (fun c => ?_)
      · have H := H.1 c
        refine r_iconst (n := 40) (v := 1) dX11_isServed_39 ki_1 rfl ?_
        refine r_goto (n := 44) dX11_isServed_40 (by decide) ?_
        refine r_istore_n (n := 45) (lv' := [(2, .int _), (0, .ref _), (1, .int _), (3, .int _)]) dX11_isServed_44 rfl (by decide) rfl rfl ?_
        have H := H _ rfl
        refine r_iinc (n := 48) (lv' := [(3, .int _), (2, .int _), (0, .ref _), (1, .int _)]) 3 dX11_isServed_45 rfl rfl (by decide) rfl rfl ?_
        refine r_goto (n := 4) dX11_isServed_48 (by decide) ?_
        exact r_sub [2, 3, 1, 0] rfl H
      · have H := H.2 c
        refine r_aload_n (n := 31) 0 dX11_isServed_30 rfl rfl ?_
        refine r_iload_n (n := 32) 1 dX11_isServed_31 rfl rfl ?_
        refine r_iload_n (n := 33) 3 dX11_isServed_32 rfl rfl ?_
        refine rs_cVi (n := 36) (rest := []) (As := [.int _, .int _]) vm_X11_isBurning gw_1306 so_129 cq_10 dX11_isServed_33 rfl rfl (Nat.le_of_ble_eq_true rfl) rfl (CI.mono H (fun r7 I8 X9 H => ?_))
        refine r_if_eq (n := 39) (tgt := 43) dX11_isServed_36 (by decide) rfl (fun c => ?_) (fun c => ?_)
        · have H := H.1 c
          refine r_iconst (n := 44) (v := 0) dX11_isServed_43 ki_0 rfl ?_
          refine r_istore_n (n := 45) (lv' := [(2, .int _), (0, .ref _), (1, .int _), (3, .int _)]) dX11_isServed_44 rfl (by decide) rfl rfl ?_
          have H := H _ rfl
          refine r_iinc (n := 48) (lv' := [(3, .int _), (2, .int _), (0, .ref _), (1, .int _)]) 3 dX11_isServed_45 rfl rfl (by decide) rfl rfl ?_
          refine r_goto (n := 4) dX11_isServed_48 (by decide) ?_
          exact r_sub [2, 3, 1, 0] rfl H
        · have H := H.2 c
          refine r_iconst (n := 40) (v := 1) dX11_isServed_39 ki_1 rfl ?_
          refine r_goto (n := 44) dX11_isServed_40 (by decide) ?_
          refine r_istore_n (n := 45) (lv' := [(2, .int _), (0, .ref _), (1, .int _), (3, .int _)]) dX11_isServed_44 rfl (by decide) rfl rfl ?_
          have H := H _ rfl
          refine r_iinc (n := 48) (lv' := [(3, .int _), (2, .int _), (0, .ref _), (1, .int _)]) 3 dX11_isServed_45 rfl rfl (by decide) rfl rfl ?_
          refine r_goto (n := 4) dX11_isServed_48 (by decide) ?_
          exact r_sub [2, 3, 1, 0] rfl H
set_option maxRecDepth 20000 in
theorem en_X11_layPlans {g : OG} {d : Nat} {I : IT} {X : XT} {K : IT → XT → Prop} {l1 : Int32} {l2 : Int32} {l3 : Int32} 
    (H : ∀ x1 : Int32, x1 = 1 + l2 →
      (¬ l2 = l3 →
        SR g (d + 1) iX11_layPlans 22 [(0, rf g 129), (1, .int l1), (2, .int l2), (3, .int l3), (4, .int x1), (5, .int 0)] I X (qV K)) ∧
      (l2 = l3 →
        CV g d iX11_ends [rf g 129, .int l1, .int l3, .int x1] I X (fun I2 X3 =>
          K I2 X3))) : CV g (d + 1) iX11_layPlans [rf g 129, .int l1, .int l2, .int l3] I X K := by
  refine ocall_of (by decide) (Nat.le_of_ble_eq_true rfl) ?_
  show SR g (d + 1) iX11_layPlans 0 [(0, rf g 129), (1, .int l1), (2, .int l2), (3, .int l3)] I X (qV K)
  refine r_iconst (n := 1) (v := 1) dX11_layPlans_0 ki_1 rfl ?_
  refine r_iload_n (n := 2) 2 dX11_layPlans_1 rfl rfl ?_
  refine r_iadd (n := 3) dX11_layPlans_2 rfl ?_
  have H := H _ rfl
  refine r_istore (n := 5) (lv' := [(4, .int _), (0, .ref _), (1, .int _), (2, .int _), (3, .int _)]) dX11_layPlans_3 (by decide) rfl rfl ?_
  refine r_iload_n (n := 6) 3 dX11_layPlans_5 rfl rfl ?_
  refine r_iload_n (n := 7) 4 dX11_layPlans_6 rfl rfl ?_
  refine r_icmp_ne (n := 10) (tgt := 19) dX11_layPlans_7 (by decide) rfl (fun c => ?_) (fun c => ?_)
  · have H := H.1 c
    refine r_iconst (n := 20) (v := 0) dX11_layPlans_19 ki_0 rfl ?_
    refine r_istore (n := 22) (lv' := [(5, .int _), (4, .int _), (0, .ref _), (1, .int _), (2, .int _), (3, .int _)]) dX11_layPlans_20 (by decide) rfl rfl ?_
    exact r_sub [2, 3, 4, 5, 1, 0] rfl H
  · have H := H.2 c
    refine r_aload_n (n := 11) 1 dX11_layPlans_10 rfl rfl ?_
    refine r_iload_n (n := 12) 2 dX11_layPlans_11 rfl rfl ?_
    refine r_iload_n (n := 13) 4 dX11_layPlans_12 rfl rfl ?_
    refine r_iload (n := 15) 0 dX11_layPlans_13 rfl rfl ?_
    refine rs_cVv (n := 18) (rest := []) (As := [.int _, .int _, .int _]) vm_X11_ends gw_1399 so_129 cq_10 dX11_layPlans_15 rfl rfl (Nat.le_of_ble_eq_true rfl) rfl (CV.mono H (fun I2 X3 H => ?_))
    exact rs_vret dX11_layPlans_18 rfl H
set_option maxRecDepth 20000 in
theorem rg_X11_layPlans_22 {g : OG} {d : Nat} {I : IT} {X : XT} {K : IT → XT → Prop} {l1 : Int32} {l2 : Int32} {l3 : Int32} {l4 : Int32} {l5 : Int32} 
    (H : (36 < l5 →
        K I X) ∧
      (¬ 36 < l5 →
        CI g d iX11_canMove [rf g 129, .int l4, .int l5] I X (fun r1 I2 X3 =>
          (r1 = 0 →
            ∀ x4 : Int32, x4 = l5 + 1 →
            SR g (d + 1) iX11_layPlans 22 [(0, rf g 129), (1, .int l1), (2, .int l2), (3, .int l3), (4, .int l4), (5, .int x4)] I2 X3 (qV K)) ∧
          (¬ r1 = 0 →
            CV g d iX11_copyTo [rf g 129, .int l4, .int (l4 + 1)] I2 X3 (fun I5 X6 =>
              CI g d iX11_isNone [.int l5] I5 X6 (fun r7 I8 X9 =>
                (¬ r7 = 0 →
                  (¬ l1 = 4 →
                    CV g d iX11_passes [rf g 129, .int (l4 + 1)] I8 X9 (fun I10 X11 =>
                      vp_in l2 10 ∧
                      ∀ I13 : IT, I13 = set2 I10 149 l2.toNatClampNeg l5 →
                      CV g d iX11_layPlans [rf g 129, .int l1, .int (l2 + 1), .int l3] I13 X11 (fun I14 X15 =>
                        ∀ x16 : Int32, x16 = l5 + 1 →
                        SR g (d + 1) iX11_layPlans 22 [(0, rf g 129), (1, .int l1), (2, .int l2), (3, .int l3), (4, .int l4), (5, .int x16)] I14 X15 (qV K)))) ∧
                  (l1 = 4 →
                    CI g d iX11_isServed [rf g 129, .int (l4 + 1)] I8 X9 (fun r17 I18 X19 =>
                      (r17 = 0 →
                        ∀ x20 : Int32, x20 = l5 + 1 →
                        SR g (d + 1) iX11_layPlans 22 [(0, rf g 129), (1, .int l1), (2, .int l2), (3, .int l3), (4, .int l4), (5, .int x20)] I18 X19 (qV K)) ∧
                      (¬ r17 = 0 →
                        CV g d iX11_passes [rf g 129, .int (l4 + 1)] I18 X19 (fun I21 X22 =>
                          vp_in l2 10 ∧
                          ∀ I24 : IT, I24 = set2 I21 149 l2.toNatClampNeg l5 →
                          CV g d iX11_layPlans [rf g 129, .int l1, .int (l2 + 1), .int l3] I24 X22 (fun I25 X26 =>
                            ∀ x27 : Int32, x27 = l5 + 1 →
                            SR g (d + 1) iX11_layPlans 22 [(0, rf g 129), (1, .int l1), (2, .int l2), (3, .int l3), (4, .int l4), (5, .int x27)] I25 X26 (qV K))))))) ∧
                (r7 = 0 →
                  CV g d iX11_carries [rf g 129, .int (l4 + 1), .int (l5 - l5 / 6 * 6)] I8 X9 (fun I28 X29 =>
                    (¬ l1 = 4 →
                      CV g d iX11_passes [rf g 129, .int (l4 + 1)] I28 X29 (fun I30 X31 =>
                        vp_in l2 10 ∧
                        ∀ I33 : IT, I33 = set2 I30 149 l2.toNatClampNeg l5 →
                        CV g d iX11_layPlans [rf g 129, .int l1, .int (l2 + 1), .int l3] I33 X31 (fun I34 X35 =>
                          ∀ x36 : Int32, x36 = l5 + 1 →
                          SR g (d + 1) iX11_layPlans 22 [(0, rf g 129), (1, .int l1), (2, .int l2), (3, .int l3), (4, .int l4), (5, .int x36)] I34 X35 (qV K)))) ∧
                    (l1 = 4 →
                      CI g d iX11_isServed [rf g 129, .int (l4 + 1)] I28 X29 (fun r37 I38 X39 =>
                        (r37 = 0 →
                          ∀ x40 : Int32, x40 = l5 + 1 →
                          SR g (d + 1) iX11_layPlans 22 [(0, rf g 129), (1, .int l1), (2, .int l2), (3, .int l3), (4, .int l4), (5, .int x40)] I38 X39 (qV K)) ∧
                        (¬ r37 = 0 →
                          CV g d iX11_passes [rf g 129, .int (l4 + 1)] I38 X39 (fun I41 X42 =>
                            vp_in l2 10 ∧
                            ∀ I44 : IT, I44 = set2 I41 149 l2.toNatClampNeg l5 →
                            CV g d iX11_layPlans [rf g 129, .int l1, .int (l2 + 1), .int l3] I44 X42 (fun I45 X46 =>
                              ∀ x47 : Int32, x47 = l5 + 1 →
                              SR g (d + 1) iX11_layPlans 22 [(0, rf g 129), (1, .int l1), (2, .int l2), (3, .int l3), (4, .int l4), (5, .int x47)] I45 X46 (qV K)))))))))))))) : SR g (d + 1) iX11_layPlans 22 [(0, rf g 129), (1, .int l1), (2, .int l2), (3, .int l3), (4, .int l4), (5, .int l5)] I X (qV K) := by
  refine r_iload (n := 24) 5 dX11_layPlans_22 rfl rfl ?_
  refine r_bipush (n := 26) (v := 36) dX11_layPlans_24 kb_36 rfl ?_
  refine r_icmp_gt (n := 29) (tgt := 118) dX11_layPlans_26 (by decide) rfl (fun c => ?_) (fun c => ?_)
  · have H := H.1 c
    exact rs_vret dX11_layPlans_118 rfl H
  · have H := H.2 c
    refine r_aload_n (n := 30) 0 dX11_layPlans_29 rfl rfl ?_
    refine r_iload (n := 32) 4 dX11_layPlans_30 rfl rfl ?_
    refine r_iload (n := 34) 5 dX11_layPlans_32 rfl rfl ?_
    refine rs_cVi (n := 37) (rest := []) (As := [.int _, .int _]) vm_X11_canMove gw_1411 so_129 cq_10 dX11_layPlans_34 rfl rfl (Nat.le_of_ble_eq_true rfl) rfl (CI.mono H (fun r1 I2 X3 H => ?_))
    refine r_if_eq (n := 40) (tgt := 112) dX11_layPlans_37 (by decide) rfl (fun c => ?_) (fun c => ?_)
    · have H := H.1 c
      have H := H _ rfl
      refine r_iinc (n := 115) (lv' := [(5, .int _), (0, .ref _), (1, .int _), (2, .int _), (3, .int _), (4, .int _)]) 5 dX11_layPlans_112 rfl rfl (by decide) rfl rfl ?_
      refine r_goto (n := 22) dX11_layPlans_115 (by decide) ?_
      exact r_sub [1, 2, 3, 4, 5, 0] rfl H
    · have H := H.2 c
      refine r_aload_n (n := 41) 0 dX11_layPlans_40 rfl rfl ?_
      refine r_iload (n := 43) 4 dX11_layPlans_41 rfl rfl ?_
      refine r_iload (n := 45) 4 dX11_layPlans_43 rfl rfl ?_
      refine r_iconst (n := 46) (v := 1) dX11_layPlans_45 ki_1 rfl ?_
      refine r_iadd (n := 47) dX11_layPlans_46 rfl ?_
      refine rs_cVv (n := 50) (rest := []) (As := [.int _, .int _]) vm_X11_copyTo gw_1367 so_129 cq_10 dX11_layPlans_47 rfl rfl (Nat.le_of_ble_eq_true rfl) rfl (CV.mono H (fun I5 X6 H => ?_))
      refine r_iload (n := 52) 5 dX11_layPlans_50 rfl rfl ?_
      refine rs_cSi (n := 55) (rest := []) (As := [.int _]) sm_X11_isNone gw_1415 dX11_layPlans_52 rfl rfl (Nat.le_of_ble_eq_true rfl) rfl (CI.mono H (fun r7 I8 X9 H => ?_))
      refine r_if_ne (n := 58) (tgt := 71) dX11_layPlans_55 (by decide) rfl (fun c => ?_) (fun c => ?_)
      · have H := H.1 c
        refine r_iload_n (n := 72) 1 dX11_layPlans_71 rfl rfl ?_
        refine r_iconst (n := 73) (v := 4) dX11_layPlans_72 ki_4 rfl ?_
        refine r_icmp_ne (n := 76) (tgt := 87) dX11_layPlans_73 (by decide) rfl (fun c => ?_) (fun c => ?_)
        · have H := H.1 c
          refine r_aload_n (n := 88) 0 dX11_layPlans_87 rfl rfl ?_
          refine r_iload (n := 90) 4 dX11_layPlans_88 rfl rfl ?_
          refine r_iconst (n := 91) (v := 1) dX11_layPlans_90 ki_1 rfl ?_
          refine r_iadd (n := 92) dX11_layPlans_91 rfl ?_
          refine rs_cVv (n := 95) (rest := []) (As := [.int _]) vm_X11_passes gw_1332 so_129 cq_10 dX11_layPlans_92 rfl rfl (Nat.le_of_ble_eq_true rfl) rfl (CV.mono H (fun I10 X11 H => ?_))
          refine r_aload_n (n := 96) 0 dX11_layPlans_95 rfl rfl ?_
          refine r_getR (n := 99) cls_10 29 fi_10_29 so_129 gw_1055 dX11_layPlans_96 rfl sr_129_29 (by decide) ?_
          refine r_iload_n (n := 100) 2 dX11_layPlans_99 rfl rfl ?_
          refine r_iload (n := 102) 5 dX11_layPlans_100 rfl rfl ?_
          obtain ⟨hi12, H⟩ := H
          have H := H _ rfl
          refine rs_iast (n := 103) sa_149 hi12 dX11_layPlans_102 rfl ?_
          refine r_aload_n (n := 104) 0 dX11_layPlans_103 rfl rfl ?_
          refine r_iload_n (n := 105) 1 dX11_layPlans_104 rfl rfl ?_
          refine r_iload_n (n := 106) 2 dX11_layPlans_105 rfl rfl ?_
          refine r_iconst (n := 107) (v := 1) dX11_layPlans_106 ki_1 rfl ?_
          refine r_iadd (n := 108) dX11_layPlans_107 rfl ?_
          refine r_iload_n (n := 109) 3 dX11_layPlans_108 rfl rfl ?_
          refine rs_cVv (n := 112) (rest := []) (As := [.int _, .int _, .int _]) vm_X11_layPlans gw_1395 so_129 cq_10 dX11_layPlans_109 rfl rfl (Nat.le_of_ble_eq_true rfl) rfl (CV.mono H (fun I14 X15 H => ?_))
          have H := H _ rfl
          refine r_iinc (n := 115) (lv' := [(5, .int _), (0, .ref _), (1, .int _), (2, .int _), (3, .int _), (4, .int _)]) 5 dX11_layPlans_112 rfl rfl (by decide) rfl rfl ?_
          refine r_goto (n := 22) dX11_layPlans_115 (by decide) ?_
          exact r_sub [1, 2, 3, 4, 5, 0] rfl H
        · have H := H.2 c
          refine r_aload_n (n := 77) 0 dX11_layPlans_76 rfl rfl ?_
          refine r_iload (n := 79) 4 dX11_layPlans_77 rfl rfl ?_
          refine r_iconst (n := 80) (v := 1) dX11_layPlans_79 ki_1 rfl ?_
          refine r_iadd (n := 81) dX11_layPlans_80 rfl ?_
          refine rs_cVi (n := 84) (rest := []) (As := [.int _]) vm_X11_isServed gw_1407 so_129 cq_10 dX11_layPlans_81 rfl rfl (Nat.le_of_ble_eq_true rfl) rfl (CI.mono H (fun r17 I18 X19 H => ?_))
          refine r_if_eq (n := 87) (tgt := 112) dX11_layPlans_84 (by decide) rfl (fun c => ?_) (fun c => ?_)
          · have H := H.1 c
            have H := H _ rfl
            refine r_iinc (n := 115) (lv' := [(5, .int _), (0, .ref _), (1, .int _), (2, .int _), (3, .int _), (4, .int _)]) 5 dX11_layPlans_112 rfl rfl (by decide) rfl rfl ?_
            refine r_goto (n := 22) dX11_layPlans_115 (by decide) ?_
            exact r_sub [1, 2, 3, 4, 5, 0] rfl H
          · have H := H.2 c
            refine r_aload_n (n := 88) 0 dX11_layPlans_87 rfl rfl ?_
            refine r_iload (n := 90) 4 dX11_layPlans_88 rfl rfl ?_
            refine r_iconst (n := 91) (v := 1) dX11_layPlans_90 ki_1 rfl ?_
            refine r_iadd (n := 92) dX11_layPlans_91 rfl ?_
            refine rs_cVv (n := 95) (rest := []) (As := [.int _]) vm_X11_passes gw_1332 so_129 cq_10 dX11_layPlans_92 rfl rfl (Nat.le_of_ble_eq_true rfl) rfl (CV.mono H (fun I21 X22 H => ?_))
            refine r_aload_n (n := 96) 0 dX11_layPlans_95 rfl rfl ?_
            refine r_getR (n := 99) cls_10 29 fi_10_29 so_129 gw_1055 dX11_layPlans_96 rfl sr_129_29 (by decide) ?_
            refine r_iload_n (n := 100) 2 dX11_layPlans_99 rfl rfl ?_
            refine r_iload (n := 102) 5 dX11_layPlans_100 rfl rfl ?_
            obtain ⟨hi23, H⟩ := H
            have H := H _ rfl
            refine rs_iast (n := 103) sa_149 hi23 dX11_layPlans_102 rfl ?_
            refine r_aload_n (n := 104) 0 dX11_layPlans_103 rfl rfl ?_
            refine r_iload_n (n := 105) 1 dX11_layPlans_104 rfl rfl ?_
            refine r_iload_n (n := 106) 2 dX11_layPlans_105 rfl rfl ?_
            refine r_iconst (n := 107) (v := 1) dX11_layPlans_106 ki_1 rfl ?_
            refine r_iadd (n := 108) dX11_layPlans_107 rfl ?_
            refine r_iload_n (n := 109) 3 dX11_layPlans_108 rfl rfl ?_
            refine rs_cVv (n := 112) (rest := []) (As := [.int _, .int _, .int _]) vm_X11_layPlans gw_1395 so_129 cq_10 dX11_layPlans_109 rfl rfl (Nat.le_of_ble_eq_true rfl) rfl (CV.mono H (fun I25 X26 H => ?_))
            have H := H _ rfl
            refine r_iinc (n := 115) (lv' := [(5, .int _), (0, .ref _), (1, .int _), (2, .int _), (3, .int _), (4, .int _)]) 5 dX11_layPlans_112 rfl rfl (by decide) rfl rfl ?_
            refine r_goto (n := 22) dX11_layPlans_115 (by decide) ?_
            exact r_sub [1, 2, 3, 4, 5, 0] rfl H
      · have H := H.2 c
        refine r_aload_n (n := 59) 0 dX11_layPlans_58 rfl rfl ?_
        refine r_iload (n := 61) 4 dX11_layPlans_59 rfl rfl ?_
        refine r_iconst (n := 62) (v := 1) dX11_layPlans_61 ki_1 rfl ?_
        refine r_iadd (n := 63) dX11_layPlans_62 rfl ?_
        refine r_iload (n := 65) 5 dX11_layPlans_63 rfl rfl ?_
        refine r_bipush (n := 67) (v := 6) dX11_layPlans_65 kb_6 rfl ?_
        refine r_irem (n := 68) dX11_layPlans_67 (by decide) rfl ?_
        refine rs_cVv (n := 71) (rest := []) (As := [.int _, .int _]) vm_X11_carries gw_1317 so_129 cq_10 dX11_layPlans_68 rfl rfl (Nat.le_of_ble_eq_true rfl) rfl (CV.mono H (fun I28 X29 H => ?_))
        refine r_iload_n (n := 72) 1 dX11_layPlans_71 rfl rfl ?_
        refine r_iconst (n := 73) (v := 4) dX11_layPlans_72 ki_4 rfl ?_
        refine r_icmp_ne (n := 76) (tgt := 87) dX11_layPlans_73 (by decide) rfl (fun c => ?_) (fun c => ?_)
        · have H := H.1 c
          refine r_aload_n (n := 88) 0 dX11_layPlans_87 rfl rfl ?_
          refine r_iload (n := 90) 4 dX11_layPlans_88 rfl rfl ?_
          refine r_iconst (n := 91) (v := 1) dX11_layPlans_90 ki_1 rfl ?_
          refine r_iadd (n := 92) dX11_layPlans_91 rfl ?_
          refine rs_cVv (n := 95) (rest := []) (As := [.int _]) vm_X11_passes gw_1332 so_129 cq_10 dX11_layPlans_92 rfl rfl (Nat.le_of_ble_eq_true rfl) rfl (CV.mono H (fun I30 X31 H => ?_))
          refine r_aload_n (n := 96) 0 dX11_layPlans_95 rfl rfl ?_
          refine r_getR (n := 99) cls_10 29 fi_10_29 so_129 gw_1055 dX11_layPlans_96 rfl sr_129_29 (by decide) ?_
          refine r_iload_n (n := 100) 2 dX11_layPlans_99 rfl rfl ?_
          refine r_iload (n := 102) 5 dX11_layPlans_100 rfl rfl ?_
          obtain ⟨hi32, H⟩ := H
          have H := H _ rfl
          refine rs_iast (n := 103) sa_149 hi32 dX11_layPlans_102 rfl ?_
          refine r_aload_n (n := 104) 0 dX11_layPlans_103 rfl rfl ?_
          refine r_iload_n (n := 105) 1 dX11_layPlans_104 rfl rfl ?_
          refine r_iload_n (n := 106) 2 dX11_layPlans_105 rfl rfl ?_
          refine r_iconst (n := 107) (v := 1) dX11_layPlans_106 ki_1 rfl ?_
          refine r_iadd (n := 108) dX11_layPlans_107 rfl ?_
          refine r_iload_n (n := 109) 3 dX11_layPlans_108 rfl rfl ?_
          refine rs_cVv (n := 112) (rest := []) (As := [.int _, .int _, .int _]) vm_X11_layPlans gw_1395 so_129 cq_10 dX11_layPlans_109 rfl rfl (Nat.le_of_ble_eq_true rfl) rfl (CV.mono H (fun I34 X35 H => ?_))
          have H := H _ rfl
          refine r_iinc (n := 115) (lv' := [(5, .int _), (0, .ref _), (1, .int _), (2, .int _), (3, .int _), (4, .int _)]) 5 dX11_layPlans_112 rfl rfl (by decide) rfl rfl ?_
          refine r_goto (n := 22) dX11_layPlans_115 (by decide) ?_
          exact r_sub [1, 2, 3, 4, 5, 0] rfl H
        · have H := H.2 c
          refine r_aload_n (n := 77) 0 dX11_layPlans_76 rfl rfl ?_
          refine r_iload (n := 79) 4 dX11_layPlans_77 rfl rfl ?_
          refine r_iconst (n := 80) (v := 1) dX11_layPlans_79 ki_1 rfl ?_
          refine r_iadd (n := 81) dX11_layPlans_80 rfl ?_
          refine rs_cVi (n := 84) (rest := []) (As := [.int _]) vm_X11_isServed gw_1407 so_129 cq_10 dX11_layPlans_81 rfl rfl (Nat.le_of_ble_eq_true rfl) rfl (CI.mono H (fun r37 I38 X39 H => ?_))
          refine r_if_eq (n := 87) (tgt := 112) dX11_layPlans_84 (by decide) rfl (fun c => ?_) (fun c => ?_)
          · have H := H.1 c
            have H := H _ rfl
            refine r_iinc (n := 115) (lv' := [(5, .int _), (0, .ref _), (1, .int _), (2, .int _), (3, .int _), (4, .int _)]) 5 dX11_layPlans_112 rfl rfl (by decide) rfl rfl ?_
            refine r_goto (n := 22) dX11_layPlans_115 (by decide) ?_
            exact r_sub [1, 2, 3, 4, 5, 0] rfl H
          · have H := H.2 c
            refine r_aload_n (n := 88) 0 dX11_layPlans_87 rfl rfl ?_
            refine r_iload (n := 90) 4 dX11_layPlans_88 rfl rfl ?_
            refine r_iconst (n := 91) (v := 1) dX11_layPlans_90 ki_1 rfl ?_
            refine r_iadd (n := 92) dX11_layPlans_91 rfl ?_
            refine rs_cVv (n := 95) (rest := []) (As := [.int _]) vm_X11_passes gw_1332 so_129 cq_10 dX11_layPlans_92 rfl rfl (Nat.le_of_ble_eq_true rfl) rfl (CV.mono H (fun I41 X42 H => ?_))
            refine r_aload_n (n := 96) 0 dX11_layPlans_95 rfl rfl ?_
            refine r_getR (n := 99) cls_10 29 fi_10_29 so_129 gw_1055 dX11_layPlans_96 rfl sr_129_29 (by decide) ?_
            refine r_iload_n (n := 100) 2 dX11_layPlans_99 rfl rfl ?_
            refine r_iload (n := 102) 5 dX11_layPlans_100 rfl rfl ?_
            obtain ⟨hi43, H⟩ := H
            have H := H _ rfl
            refine rs_iast (n := 103) sa_149 hi43 dX11_layPlans_102 rfl ?_
            refine r_aload_n (n := 104) 0 dX11_layPlans_103 rfl rfl ?_
            refine r_iload_n (n := 105) 1 dX11_layPlans_104 rfl rfl ?_
            refine r_iload_n (n := 106) 2 dX11_layPlans_105 rfl rfl ?_
            refine r_iconst (n := 107) (v := 1) dX11_layPlans_106 ki_1 rfl ?_
            refine r_iadd (n := 108) dX11_layPlans_107 rfl ?_
            refine r_iload_n (n := 109) 3 dX11_layPlans_108 rfl rfl ?_
            refine rs_cVv (n := 112) (rest := []) (As := [.int _, .int _, .int _]) vm_X11_layPlans gw_1395 so_129 cq_10 dX11_layPlans_109 rfl rfl (Nat.le_of_ble_eq_true rfl) rfl (CV.mono H (fun I45 X46 H => ?_))
            have H := H _ rfl
            refine r_iinc (n := 115) (lv' := [(5, .int _), (0, .ref _), (1, .int _), (2, .int _), (3, .int _), (4, .int _)]) 5 dX11_layPlans_112 rfl rfl (by decide) rfl rfl ?_
            refine r_goto (n := 22) dX11_layPlans_115 (by decide) ?_
            exact r_sub [1, 2, 3, 4, 5, 0] rfl H
set_option maxRecDepth 20000 in
theorem en_X11_allPlans {g : OG} {d : Nat} {I : IT} {X : XT} {K : IT → XT → Prop} {l1 : Int32} {l2 : Int32} {l3 : Int32} 
    (H : ∀ I1 : IT, I1 = set2 I 129 31 0 →
      ∀ I2 : IT, I2 = set2 I1 129 32 ((-1)) →
      ∀ I3 : IT, I3 = set2 I2 129 33 0 →
      ∀ I4 : IT, I4 = set2 I3 129 34 0 →
      ∀ I5 : IT, I5 = set2 I4 129 35 0 →
      ∀ I6 : IT, I6 = set2 I5 129 36 l3 →
      CV g d iX11_copyTo [rf g 129, .int 0, .int 1] I6 X (fun I7 X8 =>
        CV g d iX11_layPlans [rf g 129, .int l1, .int 0, .int l2] I7 X8 (fun I9 X10 =>
          K I9 X10))) : CV g (d + 1) iX11_allPlans [rf g 129, .int l1, .int l2, .int l3] I X K := by
  refine ocall_of (by decide) (Nat.le_of_ble_eq_true rfl) ?_
  show SR g (d + 1) iX11_allPlans 0 [(0, rf g 129), (1, .int l1), (2, .int l2), (3, .int l3)] I X (qV K)
  refine r_aload_n (n := 1) 0 dX11_allPlans_0 rfl rfl ?_
  refine r_iconst (n := 2) (v := 0) dX11_allPlans_1 ki_0 rfl ?_
  have H := H _ rfl
  refine rs_putZ (n := 5) (by decide) cls_10 31 fp_10_31 so_129 gw_1057 dX11_allPlans_2 rfl ?_
  refine r_aload_n (n := 6) 0 dX11_allPlans_5 rfl rfl ?_
  refine r_iconst (n := 7) (v := (-1)) dX11_allPlans_6 ki_m1 rfl ?_
  have H := H _ rfl
  refine rs_putI (n := 10) cls_10 32 fp_10_32 so_129 gw_1058 dX11_allPlans_7 rfl ?_
  refine r_aload_n (n := 11) 0 dX11_allPlans_10 rfl rfl ?_
  refine r_iconst (n := 12) (v := 0) dX11_allPlans_11 ki_0 rfl ?_
  have H := H _ rfl
  refine rs_putI (n := 15) cls_10 33 fp_10_33 so_129 gw_1059 dX11_allPlans_12 rfl ?_
  refine r_aload_n (n := 16) 0 dX11_allPlans_15 rfl rfl ?_
  refine r_iconst (n := 17) (v := 0) dX11_allPlans_16 ki_0 rfl ?_
  have H := H _ rfl
  refine rs_putI (n := 20) cls_10 34 fp_10_34 so_129 gw_1060 dX11_allPlans_17 rfl ?_
  refine r_aload_n (n := 21) 0 dX11_allPlans_20 rfl rfl ?_
  refine r_iconst (n := 22) (v := 0) dX11_allPlans_21 ki_0 rfl ?_
  have H := H _ rfl
  refine rs_putI (n := 25) cls_10 35 fp_10_35 so_129 gw_1061 dX11_allPlans_22 rfl ?_
  refine r_aload_n (n := 26) 0 dX11_allPlans_25 rfl rfl ?_
  refine r_iload_n (n := 27) 3 dX11_allPlans_26 rfl rfl ?_
  have H := H _ rfl
  refine rs_putI (n := 30) cls_10 36 fp_10_36 so_129 gw_1062 dX11_allPlans_27 rfl ?_
  refine r_aload_n (n := 31) 0 dX11_allPlans_30 rfl rfl ?_
  refine r_iconst (n := 32) (v := 0) dX11_allPlans_31 ki_0 rfl ?_
  refine r_iconst (n := 33) (v := 1) dX11_allPlans_32 ki_1 rfl ?_
  refine rs_cVv (n := 36) (rest := []) (As := [.int _, .int _]) vm_X11_copyTo gw_1367 so_129 cq_10 dX11_allPlans_33 rfl rfl (Nat.le_of_ble_eq_true rfl) rfl (CV.mono H (fun I7 X8 H => ?_))
  refine r_aload_n (n := 37) 0 dX11_allPlans_36 rfl rfl ?_
  refine r_iload_n (n := 38) 1 dX11_allPlans_37 rfl rfl ?_
  refine r_iconst (n := 39) (v := 0) dX11_allPlans_38 ki_0 rfl ?_
  refine r_iload_n (n := 40) 2 dX11_allPlans_39 rfl rfl ?_
  refine rs_cVv (n := 43) (rest := []) (As := [.int _, .int _, .int _]) vm_X11_layPlans gw_1395 so_129 cq_10 dX11_allPlans_40 rfl rfl (Nat.le_of_ble_eq_true rfl) rfl (CV.mono H (fun I9 X10 H => ?_))
  exact rs_vret dX11_allPlans_43 rfl H
set_option maxRecDepth 20000 in
theorem en_X11_embers {g : OG} {d : Nat} {I : IT} {X : XT} {K : Int32 → IT → XT → Prop} {l1 : Int32} 
    (H : SR g (d + 1) iX11_embers 4 [(0, rf g 129), (1, .int l1), (2, .int 0), (3, .int 0)] I X (qI K)) : CI g (d + 1) iX11_embers [rf g 129, .int l1] I X K := by
  refine ocall_of (by decide) (Nat.le_of_ble_eq_true rfl) ?_
  show SR g (d + 1) iX11_embers 0 [(0, rf g 129), (1, .int l1)] I X (qI K)
  refine r_iconst (n := 1) (v := 0) dX11_embers_0 ki_0 rfl ?_
  refine r_istore_n (n := 2) (lv' := [(2, .int _), (0, .ref _), (1, .int _)]) dX11_embers_1 rfl (by decide) rfl rfl ?_
  refine r_iconst (n := 3) (v := 0) dX11_embers_2 ki_0 rfl ?_
  refine r_istore_n (n := 4) (lv' := [(3, .int _), (2, .int _), (0, .ref _), (1, .int _)]) dX11_embers_3 rfl (by decide) rfl rfl ?_
  exact r_sub [2, 3, 1, 0] rfl H
set_option maxRecDepth 20000 in
theorem rg_X11_embers_4 {g : OG} {d : Nat} {I : IT} {X : XT} {K : Int32 → IT → XT → Prop} {l1 : Int32} {l2 : Int32} {l3 : Int32} 
    (H : (l1 ≤ l3 →
        K l2 I X) ∧
      (¬ l1 ≤ l3 →
        vp_in l3 10 ∧
        CI g d iX11_isNone [.int (I 150 l3.toNatClampNeg)] I X (fun r2 I3 X4 =>
          (r2 = 0 →
            ∀ x5 : Int32, x5 = l2 + 1 →
            ∀ x6 : Int32, x6 = l3 + 1 →
            SR g (d + 1) iX11_embers 4 [(0, rf g 129), (1, .int l1), (2, .int x5), (3, .int x6)] I3 X4 (qI K)) ∧
          (¬ r2 = 0 →
            ∀ x7 : Int32, x7 = l2 + 0 →
            ∀ x8 : Int32, x8 = l3 + 1 →
            SR g (d + 1) iX11_embers 4 [(0, rf g 129), (1, .int l1), (2, .int x7), (3, .int x8)] I3 X4 (qI K))))) : SR g (d + 1) iX11_embers 4 [(0, rf g 129), (1, .int l1), (2, .int l2), (3, .int l3)] I X (qI K) := by
  refine r_iload_n (n := 5) 3 dX11_embers_4 rfl rfl ?_
  refine r_iload_n (n := 6) 1 dX11_embers_5 rfl rfl ?_
  refine r_icmp_ge (n := 9) (tgt := 35) dX11_embers_6 (by decide) rfl (fun c => ?_) (fun c => ?_)
  · have H := H.1 c
    refine r_iload_n (n := 36) 2 dX11_embers_35 rfl rfl ?_
    exact rs_iret dX11_embers_36 rfl H
  · have H := H.2 c
    refine r_iload_n (n := 10) 2 dX11_embers_9 rfl rfl ?_
    refine r_aload_n (n := 11) 0 dX11_embers_10 rfl rfl ?_
    refine r_getR (n := 14) cls_10 30 fi_10_30 so_129 gw_1056 dX11_embers_11 rfl sr_129_30 (by decide) ?_
    refine r_iload_n (n := 15) 3 dX11_embers_14 rfl rfl ?_
    obtain ⟨hi1, H⟩ := H
    refine rs_iald (n := 16) sa_150 hi1 dX11_embers_15 rfl ?_
    refine rs_cSi (n := 19) (rest := [.int _]) (As := [.int _]) sm_X11_isNone gw_1415 dX11_embers_16 rfl rfl (Nat.le_of_ble_eq_true rfl) rfl (CI.mono H (fun r2 I3 X4 H => ?_))
    refine r_if_eq (n := 22) (tgt := 26) dX11_embers_19 (by decide) rfl (fun c => ?_) (fun c => ?_)
    · have H := H.1 c
      refine r_iconst (n := 27) (v := 1) dX11_embers_26 ki_1 rfl ?_
      refine r_iadd (n := 28) dX11_embers_27 rfl ?_
      have H := H _ rfl
      refine r_istore_n (n := 29) (lv' := [(2, .int _), (0, .ref _), (1, .int _), (3, .int _)]) dX11_embers_28 rfl (by decide) rfl rfl ?_
      have H := H _ rfl
      refine r_iinc (n := 32) (lv' := [(3, .int _), (2, .int _), (0, .ref _), (1, .int _)]) 3 dX11_embers_29 rfl rfl (by decide) rfl rfl ?_
      refine r_goto (n := 4) dX11_embers_32 (by decide) ?_
      exact r_sub [2, 3, 1, 0] rfl H
    · have H := H.2 c
      refine r_iconst (n := 23) (v := 0) dX11_embers_22 ki_0 rfl ?_
      refine r_goto (n := 27) dX11_embers_23 (by decide) ?_
      refine r_iadd (n := 28) dX11_embers_27 rfl ?_
      have H := H _ rfl
      refine r_istore_n (n := 29) (lv' := [(2, .int _), (0, .ref _), (1, .int _), (3, .int _)]) dX11_embers_28 rfl (by decide) rfl rfl ?_
      have H := H _ rfl
      refine r_iinc (n := 32) (lv' := [(3, .int _), (2, .int _), (0, .ref _), (1, .int _)]) 3 dX11_embers_29 rfl rfl (by decide) rfl rfl ?_
      refine r_goto (n := 4) dX11_embers_32 (by decide) ?_
      exact r_sub [2, 3, 1, 0] rfl H
set_option maxRecDepth 20000 in
theorem en_X11_can {g : OG} {d : Nat} {I : IT} {X : XT} {K : Int32 → IT → XT → Prop} {l1 : Int32} 
    (H : CI g d iX11_in [.int l1, .int 0, .int 4] I X (fun r1 I2 X3 =>
        (¬ r1 = 0 →
          (¬ (I2 129 10) = 0 →
            CV g d iX11_allPlans [rf g 129, .int 0, .int l1, .int 0] I2 X3 (fun I4 X5 =>
              K (I4 129 33) I4 X5)) ∧
          ((I2 129 10) = 0 →
            K 0 I2 X3)) ∧
        (r1 = 0 →
          K ((-1)) I2 X3))) : CI g (d + 1) iX11_can [rf g 129, .int l1] I X K := by
  refine ocall_of (by decide) (Nat.le_of_ble_eq_true rfl) ?_
  show SR g (d + 1) iX11_can 0 [(0, rf g 129), (1, .int l1)] I X (qI K)
  refine r_iload_n (n := 1) 1 dX11_can_0 rfl rfl ?_
  refine r_iconst (n := 2) (v := 0) dX11_can_1 ki_0 rfl ?_
  refine r_iconst (n := 3) (v := 4) dX11_can_2 ki_4 rfl ?_
  refine rs_cSi (n := 6) (rest := []) (As := [.int _, .int _, .int _]) sm_X11_in gw_1150 dX11_can_3 rfl rfl (Nat.le_of_ble_eq_true rfl) rfl (CI.mono H (fun r1 I2 X3 H => ?_))
  refine r_if_ne (n := 9) (tgt := 11) dX11_can_6 (by decide) rfl (fun c => ?_) (fun c => ?_)
  · have H := H.1 c
    refine r_aload_n (n := 12) 0 dX11_can_11 rfl rfl ?_
    refine rs_getI (n := 15) cls_10 10 fi_10_10 so_129 gw_1036 dX11_can_12 rfl ?_
    refine r_if_ne (n := 18) (tgt := 20) dX11_can_15 (by decide) rfl (fun c => ?_) (fun c => ?_)
    · have H := H.1 c
      refine r_aload_n (n := 21) 0 dX11_can_20 rfl rfl ?_
      refine r_iconst (n := 22) (v := 0) dX11_can_21 ki_0 rfl ?_
      refine r_iload_n (n := 23) 1 dX11_can_22 rfl rfl ?_
      refine r_iconst (n := 24) (v := 0) dX11_can_23 ki_0 rfl ?_
      refine rs_cVv (n := 27) (rest := []) (As := [.int _, .int _, .int _]) vm_X11_allPlans gw_1391 so_129 cq_10 dX11_can_24 rfl rfl (Nat.le_of_ble_eq_true rfl) rfl (CV.mono H (fun I4 X5 H => ?_))
      refine r_aload_n (n := 28) 0 dX11_can_27 rfl rfl ?_
      refine rs_getI (n := 31) cls_10 33 fi_10_33 so_129 gw_1059 dX11_can_28 rfl ?_
      exact rs_iret dX11_can_31 rfl H
    · have H := H.2 c
      refine r_iconst (n := 19) (v := 0) dX11_can_18 ki_0 rfl ?_
      exact rs_iret dX11_can_19 rfl H
  · have H := H.2 c
    refine r_iconst (n := 10) (v := (-1)) dX11_can_9 ki_m1 rfl ?_
    exact rs_iret dX11_can_10 rfl H
set_option maxRecDepth 20000 in
theorem en_X11_plan {g : OG} {d : Nat} {I : IT} {X : XT} {K : Int32 → IT → XT → Prop} {l1 : Int32} {l2 : Int32} {l3 : Int32} 
    (H : CI g d iX11_isHouse [rf g 129, .int l1] I X (fun r1 I2 X3 =>
        (r1 = 0 →
          K ((-1)) I2 X3) ∧
        (¬ r1 = 0 →
          CI g d iX11_in [.int l2, .int 0, .int 4] I2 X3 (fun r4 I5 X6 =>
            (r4 = 0 →
              K ((-1)) I5 X6) ∧
            (¬ r4 = 0 →
              CI g d iX11_isRow [.int l3] I5 X6 (fun r7 I8 X9 =>
                (¬ r7 = 0 →
                  CV g d iX11_allPlans [rf g 129, .int 1, .int l2, .int l1] I8 X9 (fun I10 X11 =>
                    (¬ (I10 129 31) = 0 →
                      CV g d iX11_layRow [rf g 129, .int l3, rf g 150, .int l2] I10 X11 (fun I12 X13 =>
                        CI g d iX11_embers [rf g 129, .int l2] I12 X13 (fun r14 I15 X16 =>
                          K r14 I15 X16))) ∧
                    ((I10 129 31) = 0 →
                      K ((-9)) I10 X11))) ∧
                (r7 = 0 →
                  K ((-1)) I8 X9))))))) : CI g (d + 1) iX11_plan [rf g 129, .int l1, .int l2, .int l3] I X K := by
  refine ocall_of (by decide) (Nat.le_of_ble_eq_true rfl) ?_
  show SR g (d + 1) iX11_plan 0 [(0, rf g 129), (1, .int l1), (2, .int l2), (3, .int l3)] I X (qI K)
  refine r_aload_n (n := 1) 0 dX11_plan_0 rfl rfl ?_
  refine r_iload_n (n := 2) 1 dX11_plan_1 rfl rfl ?_
  refine rs_cVi (n := 5) (rest := []) (As := [.int _]) vm_X11_isHouse gw_1250 so_129 cq_10 dX11_plan_2 rfl rfl (Nat.le_of_ble_eq_true rfl) rfl (CI.mono H (fun r1 I2 X3 H => ?_))
  refine r_if_eq (n := 8) (tgt := 24) dX11_plan_5 (by decide) rfl (fun c => ?_) (fun c => ?_)
  · have H := H.1 c
    refine r_iconst (n := 25) (v := (-1)) dX11_plan_24 ki_m1 rfl ?_
    exact rs_iret dX11_plan_25 rfl H
  · have H := H.2 c
    refine r_iload_n (n := 9) 2 dX11_plan_8 rfl rfl ?_
    refine r_iconst (n := 10) (v := 0) dX11_plan_9 ki_0 rfl ?_
    refine r_iconst (n := 11) (v := 4) dX11_plan_10 ki_4 rfl ?_
    refine rs_cSi (n := 14) (rest := []) (As := [.int _, .int _, .int _]) sm_X11_in gw_1150 dX11_plan_11 rfl rfl (Nat.le_of_ble_eq_true rfl) rfl (CI.mono H (fun r4 I5 X6 H => ?_))
    refine r_if_eq (n := 17) (tgt := 24) dX11_plan_14 (by decide) rfl (fun c => ?_) (fun c => ?_)
    · have H := H.1 c
      refine r_iconst (n := 25) (v := (-1)) dX11_plan_24 ki_m1 rfl ?_
      exact rs_iret dX11_plan_25 rfl H
    · have H := H.2 c
      refine r_iload_n (n := 18) 3 dX11_plan_17 rfl rfl ?_
      refine rs_cSi (n := 21) (rest := []) (As := [.int _]) sm_X11_isRow gw_1169 dX11_plan_18 rfl rfl (Nat.le_of_ble_eq_true rfl) rfl (CI.mono H (fun r7 I8 X9 H => ?_))
      refine r_if_ne (n := 24) (tgt := 26) dX11_plan_21 (by decide) rfl (fun c => ?_) (fun c => ?_)
      · have H := H.1 c
        refine r_aload_n (n := 27) 0 dX11_plan_26 rfl rfl ?_
        refine r_iconst (n := 28) (v := 1) dX11_plan_27 ki_1 rfl ?_
        refine r_iload_n (n := 29) 2 dX11_plan_28 rfl rfl ?_
        refine r_iload_n (n := 30) 1 dX11_plan_29 rfl rfl ?_
        refine rs_cVv (n := 33) (rest := []) (As := [.int _, .int _, .int _]) vm_X11_allPlans gw_1391 so_129 cq_10 dX11_plan_30 rfl rfl (Nat.le_of_ble_eq_true rfl) rfl (CV.mono H (fun I10 X11 H => ?_))
        refine r_aload_n (n := 34) 0 dX11_plan_33 rfl rfl ?_
        refine rs_getI (n := 37) cls_10 31 fi_10_31 so_129 gw_1057 dX11_plan_34 rfl ?_
        refine r_if_ne (n := 40) (tgt := 43) dX11_plan_37 (by decide) rfl (fun c => ?_) (fun c => ?_)
        · have H := H.1 c
          refine r_aload_n (n := 44) 0 dX11_plan_43 rfl rfl ?_
          refine r_iload_n (n := 45) 3 dX11_plan_44 rfl rfl ?_
          refine r_aload_n (n := 46) 0 dX11_plan_45 rfl rfl ?_
          refine r_getR (n := 49) cls_10 30 fi_10_30 so_129 gw_1056 dX11_plan_46 rfl sr_129_30 (by decide) ?_
          refine r_iload_n (n := 50) 2 dX11_plan_49 rfl rfl ?_
          refine rs_cVv (n := 53) (rest := []) (As := [.int _, .ref _, .int _]) vm_X11_layRow gw_1422 so_129 cq_10 dX11_plan_50 rfl rfl (Nat.le_of_ble_eq_true rfl) rfl (CV.mono H (fun I12 X13 H => ?_))
          refine r_aload_n (n := 54) 0 dX11_plan_53 rfl rfl ?_
          refine r_iload_n (n := 55) 2 dX11_plan_54 rfl rfl ?_
          refine rs_cVi (n := 58) (rest := []) (As := [.int _]) vm_X11_embers gw_1426 so_129 cq_10 dX11_plan_55 rfl rfl (Nat.le_of_ble_eq_true rfl) rfl (CI.mono H (fun r14 I15 X16 H => ?_))
          exact rs_iret dX11_plan_58 rfl H
        · have H := H.2 c
          refine r_bipush (n := 42) (v := (-9)) dX11_plan_40 kb_m9 rfl ?_
          exact rs_iret dX11_plan_42 rfl H
      · have H := H.2 c
        refine r_iconst (n := 25) (v := (-1)) dX11_plan_24 ki_m1 rfl ?_
        exact rs_iret dX11_plan_25 rfl H
set_option maxRecDepth 20000 in
theorem en_X11_ways {g : OG} {d : Nat} {I : IT} {X : XT} {K : Int32 → IT → XT → Prop} {l1 : Int32} {l2 : Int32} 
    (H : CI g d iX11_isHouse [rf g 129, .int l1] I X (fun r1 I2 X3 =>
        (r1 = 0 →
          K ((-1)) I2 X3) ∧
        (¬ r1 = 0 →
          CI g d iX11_in [.int l2, .int 0, .int 4] I2 X3 (fun r4 I5 X6 =>
            (¬ r4 = 0 →
              CV g d iX11_allPlans [rf g 129, .int 2, .int l2, .int l1] I5 X6 (fun I7 X8 =>
                CI g d iX11_fraction [rf g 129, .long ((I7 129 34).toInt64), .long 1] I7 X8 (fun r9 I10 X11 =>
                  CI g d iX11_tells [rf g 129, .int (I10 129 35), .int 1] I10 X11 (fun r12 I13 X14 =>
                    K r12 I13 X14)))) ∧
            (r4 = 0 →
              K ((-1)) I5 X6))))) : CI g (d + 1) iX11_ways [rf g 129, .int l1, .int l2] I X K := by
  refine ocall_of (by decide) (Nat.le_of_ble_eq_true rfl) ?_
  show SR g (d + 1) iX11_ways 0 [(0, rf g 129), (1, .int l1), (2, .int l2)] I X (qI K)
  refine r_aload_n (n := 1) 0 dX11_ways_0 rfl rfl ?_
  refine r_iload_n (n := 2) 1 dX11_ways_1 rfl rfl ?_
  refine rs_cVi (n := 5) (rest := []) (As := [.int _]) vm_X11_isHouse gw_1250 so_129 cq_10 dX11_ways_2 rfl rfl (Nat.le_of_ble_eq_true rfl) rfl (CI.mono H (fun r1 I2 X3 H => ?_))
  refine r_if_eq (n := 8) (tgt := 17) dX11_ways_5 (by decide) rfl (fun c => ?_) (fun c => ?_)
  · have H := H.1 c
    refine r_iconst (n := 18) (v := (-1)) dX11_ways_17 ki_m1 rfl ?_
    exact rs_iret dX11_ways_18 rfl H
  · have H := H.2 c
    refine r_iload_n (n := 9) 2 dX11_ways_8 rfl rfl ?_
    refine r_iconst (n := 10) (v := 0) dX11_ways_9 ki_0 rfl ?_
    refine r_iconst (n := 11) (v := 4) dX11_ways_10 ki_4 rfl ?_
    refine rs_cSi (n := 14) (rest := []) (As := [.int _, .int _, .int _]) sm_X11_in gw_1150 dX11_ways_11 rfl rfl (Nat.le_of_ble_eq_true rfl) rfl (CI.mono H (fun r4 I5 X6 H => ?_))
    refine r_if_ne (n := 17) (tgt := 19) dX11_ways_14 (by decide) rfl (fun c => ?_) (fun c => ?_)
    · have H := H.1 c
      refine r_aload_n (n := 20) 0 dX11_ways_19 rfl rfl ?_
      refine r_iconst (n := 21) (v := 2) dX11_ways_20 ki_2 rfl ?_
      refine r_iload_n (n := 22) 2 dX11_ways_21 rfl rfl ?_
      refine r_iload_n (n := 23) 1 dX11_ways_22 rfl rfl ?_
      refine rs_cVv (n := 26) (rest := []) (As := [.int _, .int _, .int _]) vm_X11_allPlans gw_1391 so_129 cq_10 dX11_ways_23 rfl rfl (Nat.le_of_ble_eq_true rfl) rfl (CV.mono H (fun I7 X8 H => ?_))
      refine r_aload_n (n := 27) 0 dX11_ways_26 rfl rfl ?_
      refine r_aload_n (n := 28) 0 dX11_ways_27 rfl rfl ?_
      refine rs_getI (n := 31) cls_10 34 fi_10_34 so_129 gw_1060 dX11_ways_28 rfl ?_
      refine r_i2l (n := 32) dX11_ways_31 rfl ?_
      refine r_lconst (n := 33) (v := 1) dX11_ways_32 (by decide) rfl ?_
      refine rs_cVi (n := 36) (rest := []) (As := [.long _, .long _]) vm_X11_fraction gw_1434 so_129 cq_10 dX11_ways_33 rfl rfl (Nat.le_of_ble_eq_true rfl) rfl (CI.mono H (fun r9 I10 X11 H => ?_))
      refine r_pop (n := 37) dX11_ways_36 rfl rfl ?_
      refine r_aload_n (n := 38) 0 dX11_ways_37 rfl rfl ?_
      refine r_aload_n (n := 39) 0 dX11_ways_38 rfl rfl ?_
      refine rs_getI (n := 42) cls_10 35 fi_10_35 so_129 gw_1061 dX11_ways_39 rfl ?_
      refine r_iconst (n := 43) (v := 1) dX11_ways_42 ki_1 rfl ?_
      refine rs_cVi (n := 46) (rest := []) (As := [.int _, .int _]) vm_X11_tells gw_1184 so_129 cq_10 dX11_ways_43 rfl rfl (Nat.le_of_ble_eq_true rfl) rfl (CI.mono H (fun r12 I13 X14 H => ?_))
      exact rs_iret dX11_ways_46 rfl H
    · have H := H.2 c
      refine r_iconst (n := 18) (v := (-1)) dX11_ways_17 ki_m1 rfl ?_
      exact rs_iret dX11_ways_18 rfl H
set_option maxRecDepth 20000 in
theorem en_X11_most {g : OG} {d : Nat} {I : IT} {X : XT} {K : Int32 → IT → XT → Prop} {l1 : Int32} {l2 : Int32} 
    (H : CI g d iX11_in [.int l1, .int 0, .int 4] I X (fun r1 I2 X3 =>
        (r1 = 0 →
          K ((-1)) I2 X3) ∧
        (¬ r1 = 0 →
          CI g d iX11_isRow [.int l2] I2 X3 (fun r4 I5 X6 =>
            (¬ r4 = 0 →
              (¬ (I5 129 10) = 0 →
                CV g d iX11_allPlans [rf g 129, .int 3, .int l1, .int 0] I5 X6 (fun I7 X8 =>
                  CV g d iX11_layRow [rf g 129, .int l2, rf g 150, .int l1] I7 X8 (fun I9 X10 =>
                    K (I9 129 32) I9 X10))) ∧
              ((I5 129 10) = 0 →
                K ((-4)) I5 X6)) ∧
            (r4 = 0 →
              K ((-1)) I5 X6))))) : CI g (d + 1) iX11_most [rf g 129, .int l1, .int l2] I X K := by
  refine ocall_of (by decide) (Nat.le_of_ble_eq_true rfl) ?_
  show SR g (d + 1) iX11_most 0 [(0, rf g 129), (1, .int l1), (2, .int l2)] I X (qI K)
  refine r_iload_n (n := 1) 1 dX11_most_0 rfl rfl ?_
  refine r_iconst (n := 2) (v := 0) dX11_most_1 ki_0 rfl ?_
  refine r_iconst (n := 3) (v := 4) dX11_most_2 ki_4 rfl ?_
  refine rs_cSi (n := 6) (rest := []) (As := [.int _, .int _, .int _]) sm_X11_in gw_1150 dX11_most_3 rfl rfl (Nat.le_of_ble_eq_true rfl) rfl (CI.mono H (fun r1 I2 X3 H => ?_))
  refine r_if_eq (n := 9) (tgt := 16) dX11_most_6 (by decide) rfl (fun c => ?_) (fun c => ?_)
  · have H := H.1 c
    refine r_iconst (n := 17) (v := (-1)) dX11_most_16 ki_m1 rfl ?_
    exact rs_iret dX11_most_17 rfl H
  · have H := H.2 c
    refine r_iload_n (n := 10) 2 dX11_most_9 rfl rfl ?_
    refine rs_cSi (n := 13) (rest := []) (As := [.int _]) sm_X11_isRow gw_1169 dX11_most_10 rfl rfl (Nat.le_of_ble_eq_true rfl) rfl (CI.mono H (fun r4 I5 X6 H => ?_))
    refine r_if_ne (n := 16) (tgt := 18) dX11_most_13 (by decide) rfl (fun c => ?_) (fun c => ?_)
    · have H := H.1 c
      refine r_aload_n (n := 19) 0 dX11_most_18 rfl rfl ?_
      refine rs_getI (n := 22) cls_10 10 fi_10_10 so_129 gw_1036 dX11_most_19 rfl ?_
      refine r_if_ne (n := 25) (tgt := 28) dX11_most_22 (by decide) rfl (fun c => ?_) (fun c => ?_)
      · have H := H.1 c
        refine r_aload_n (n := 29) 0 dX11_most_28 rfl rfl ?_
        refine r_iconst (n := 30) (v := 3) dX11_most_29 ki_3 rfl ?_
        refine r_iload_n (n := 31) 1 dX11_most_30 rfl rfl ?_
        refine r_iconst (n := 32) (v := 0) dX11_most_31 ki_0 rfl ?_
        refine rs_cVv (n := 35) (rest := []) (As := [.int _, .int _, .int _]) vm_X11_allPlans gw_1391 so_129 cq_10 dX11_most_32 rfl rfl (Nat.le_of_ble_eq_true rfl) rfl (CV.mono H (fun I7 X8 H => ?_))
        refine r_aload_n (n := 36) 0 dX11_most_35 rfl rfl ?_
        refine r_iload_n (n := 37) 2 dX11_most_36 rfl rfl ?_
        refine r_aload_n (n := 38) 0 dX11_most_37 rfl rfl ?_
        refine r_getR (n := 41) cls_10 30 fi_10_30 so_129 gw_1056 dX11_most_38 rfl sr_129_30 (by decide) ?_
        refine r_iload_n (n := 42) 1 dX11_most_41 rfl rfl ?_
        refine rs_cVv (n := 45) (rest := []) (As := [.int _, .ref _, .int _]) vm_X11_layRow gw_1422 so_129 cq_10 dX11_most_42 rfl rfl (Nat.le_of_ble_eq_true rfl) rfl (CV.mono H (fun I9 X10 H => ?_))
        refine r_aload_n (n := 46) 0 dX11_most_45 rfl rfl ?_
        refine rs_getI (n := 49) cls_10 32 fi_10_32 so_129 gw_1058 dX11_most_46 rfl ?_
        exact rs_iret dX11_most_49 rfl H
      · have H := H.2 c
        refine r_bipush (n := 27) (v := (-4)) dX11_most_25 kb_m4 rfl ?_
        exact rs_iret dX11_most_27 rfl H
    · have H := H.2 c
      refine r_iconst (n := 17) (v := (-1)) dX11_most_16 ki_m1 rfl ?_
      exact rs_iret dX11_most_17 rfl H
set_option maxRecDepth 20000 in
theorem en_X11_serve {g : OG} {d : Nat} {I : IT} {X : XT} {K : Int32 → IT → XT → Prop} {l1 : Int32} {l2 : Int32} 
    (H : CI g d iX11_in [.int l1, .int 0, .int 4] I X (fun r1 I2 X3 =>
        (r1 = 0 →
          K ((-1)) I2 X3) ∧
        (¬ r1 = 0 →
          CI g d iX11_isRow [.int l2] I2 X3 (fun r4 I5 X6 =>
            (¬ r4 = 0 →
              (¬ (I5 129 10) = 0 →
                CV g d iX11_allPlans [rf g 129, .int 4, .int l1, .int 0] I5 X6 (fun I7 X8 =>
                  (¬ (I7 129 31) = 0 →
                    CV g d iX11_layRow [rf g 129, .int l2, rf g 150, .int l1] I7 X8 (fun I9 X10 =>
                      CI g d iX11_embers [rf g 129, .int l1] I9 X10 (fun r11 I12 X13 =>
                        K r11 I12 X13))) ∧
                  ((I7 129 31) = 0 →
                    K ((-9)) I7 X8))) ∧
              ((I5 129 10) = 0 →
                K ((-4)) I5 X6)) ∧
            (r4 = 0 →
              K ((-1)) I5 X6))))) : CI g (d + 1) iX11_serve [rf g 129, .int l1, .int l2] I X K := by
  refine ocall_of (by decide) (Nat.le_of_ble_eq_true rfl) ?_
  show SR g (d + 1) iX11_serve 0 [(0, rf g 129), (1, .int l1), (2, .int l2)] I X (qI K)
  refine r_iload_n (n := 1) 1 dX11_serve_0 rfl rfl ?_
  refine r_iconst (n := 2) (v := 0) dX11_serve_1 ki_0 rfl ?_
  refine r_iconst (n := 3) (v := 4) dX11_serve_2 ki_4 rfl ?_
  refine rs_cSi (n := 6) (rest := []) (As := [.int _, .int _, .int _]) sm_X11_in gw_1150 dX11_serve_3 rfl rfl (Nat.le_of_ble_eq_true rfl) rfl (CI.mono H (fun r1 I2 X3 H => ?_))
  refine r_if_eq (n := 9) (tgt := 16) dX11_serve_6 (by decide) rfl (fun c => ?_) (fun c => ?_)
  · have H := H.1 c
    refine r_iconst (n := 17) (v := (-1)) dX11_serve_16 ki_m1 rfl ?_
    exact rs_iret dX11_serve_17 rfl H
  · have H := H.2 c
    refine r_iload_n (n := 10) 2 dX11_serve_9 rfl rfl ?_
    refine rs_cSi (n := 13) (rest := []) (As := [.int _]) sm_X11_isRow gw_1169 dX11_serve_10 rfl rfl (Nat.le_of_ble_eq_true rfl) rfl (CI.mono H (fun r4 I5 X6 H => ?_))
    refine r_if_ne (n := 16) (tgt := 18) dX11_serve_13 (by decide) rfl (fun c => ?_) (fun c => ?_)
    · have H := H.1 c
      refine r_aload_n (n := 19) 0 dX11_serve_18 rfl rfl ?_
      refine rs_getI (n := 22) cls_10 10 fi_10_10 so_129 gw_1036 dX11_serve_19 rfl ?_
      refine r_if_ne (n := 25) (tgt := 28) dX11_serve_22 (by decide) rfl (fun c => ?_) (fun c => ?_)
      · have H := H.1 c
        refine r_aload_n (n := 29) 0 dX11_serve_28 rfl rfl ?_
        refine r_iconst (n := 30) (v := 4) dX11_serve_29 ki_4 rfl ?_
        refine r_iload_n (n := 31) 1 dX11_serve_30 rfl rfl ?_
        refine r_iconst (n := 32) (v := 0) dX11_serve_31 ki_0 rfl ?_
        refine rs_cVv (n := 35) (rest := []) (As := [.int _, .int _, .int _]) vm_X11_allPlans gw_1391 so_129 cq_10 dX11_serve_32 rfl rfl (Nat.le_of_ble_eq_true rfl) rfl (CV.mono H (fun I7 X8 H => ?_))
        refine r_aload_n (n := 36) 0 dX11_serve_35 rfl rfl ?_
        refine rs_getI (n := 39) cls_10 31 fi_10_31 so_129 gw_1057 dX11_serve_36 rfl ?_
        refine r_if_ne (n := 42) (tgt := 45) dX11_serve_39 (by decide) rfl (fun c => ?_) (fun c => ?_)
        · have H := H.1 c
          refine r_aload_n (n := 46) 0 dX11_serve_45 rfl rfl ?_
          refine r_iload_n (n := 47) 2 dX11_serve_46 rfl rfl ?_
          refine r_aload_n (n := 48) 0 dX11_serve_47 rfl rfl ?_
          refine r_getR (n := 51) cls_10 30 fi_10_30 so_129 gw_1056 dX11_serve_48 rfl sr_129_30 (by decide) ?_
          refine r_iload_n (n := 52) 1 dX11_serve_51 rfl rfl ?_
          refine rs_cVv (n := 55) (rest := []) (As := [.int _, .ref _, .int _]) vm_X11_layRow gw_1422 so_129 cq_10 dX11_serve_52 rfl rfl (Nat.le_of_ble_eq_true rfl) rfl (CV.mono H (fun I9 X10 H => ?_))
          refine r_aload_n (n := 56) 0 dX11_serve_55 rfl rfl ?_
          refine r_iload_n (n := 57) 1 dX11_serve_56 rfl rfl ?_
          refine rs_cVi (n := 60) (rest := []) (As := [.int _]) vm_X11_embers gw_1426 so_129 cq_10 dX11_serve_57 rfl rfl (Nat.le_of_ble_eq_true rfl) rfl (CI.mono H (fun r11 I12 X13 H => ?_))
          exact rs_iret dX11_serve_60 rfl H
        · have H := H.2 c
          refine r_bipush (n := 44) (v := (-9)) dX11_serve_42 kb_m9 rfl ?_
          exact rs_iret dX11_serve_44 rfl H
      · have H := H.2 c
        refine r_bipush (n := 27) (v := (-4)) dX11_serve_25 kb_m4 rfl ?_
        exact rs_iret dX11_serve_27 rfl H
    · have H := H.2 c
      refine r_iconst (n := 17) (v := (-1)) dX11_serve_16 ki_m1 rfl ?_
      exact rs_iret dX11_serve_17 rfl H
set_option maxRecDepth 20000 in
theorem en_X11_areMoves {g : OG} {d : Nat} {I : IT} {X : XT} {K : Int32 → IT → XT → Prop} {l1 : Int32} 
    (H : SR g (d + 1) iX11_areMoves 4 [(0, rf g 129), (1, .int l1), (2, .int 1), (3, .int 0)] I X (qI K)) : CI g (d + 1) iX11_areMoves [rf g 129, .int l1] I X K := by
  refine ocall_of (by decide) (Nat.le_of_ble_eq_true rfl) ?_
  show SR g (d + 1) iX11_areMoves 0 [(0, rf g 129), (1, .int l1)] I X (qI K)
  refine r_iconst (n := 1) (v := 1) dX11_areMoves_0 ki_1 rfl ?_
  refine r_istore_n (n := 2) (lv' := [(2, .int _), (0, .ref _), (1, .int _)]) dX11_areMoves_1 rfl (by decide) rfl rfl ?_
  refine r_iconst (n := 3) (v := 0) dX11_areMoves_2 ki_0 rfl ?_
  refine r_istore_n (n := 4) (lv' := [(3, .int _), (2, .int _), (0, .ref _), (1, .int _)]) dX11_areMoves_3 rfl (by decide) rfl rfl ?_
  exact r_sub [2, 3, 1, 0] rfl H
set_option maxRecDepth 20000 in
theorem rg_X11_areMoves_4 {g : OG} {d : Nat} {I : IT} {X : XT} {K : Int32 → IT → XT → Prop} {l1 : Int32} {l2 : Int32} {l3 : Int32} 
    (H : vp_in l1 6 ∧
      ((I 131 l1.toNatClampNeg) ≤ l3 →
        (l2 = 0 ∨ l2 = 1) ∧ K l2 I X) ∧
      (¬ (I 131 l1.toNatClampNeg) ≤ l3 →
        (l2 = 0 →
          ∀ x2 : Int32, x2 = l3 + 1 →
          SR g (d + 1) iX11_areMoves 4 [(0, rf g 129), (1, .int l1), (2, .int 0), (3, .int x2)] I X (qI K)) ∧
        (¬ l2 = 0 →
          CI g d iX11_rowAt [rf g 129, .int l1, .int l3] I X (fun r3 I4 X5 =>
            CI g d iX11_in [.int r3, .int 0, .int 36] I4 X5 (fun r6 I7 X8 =>
              (r6 = 0 →
                ∀ x9 : Int32, x9 = l3 + 1 →
                SR g (d + 1) iX11_areMoves 4 [(0, rf g 129), (1, .int l1), (2, .int 0), (3, .int x9)] I7 X8 (qI K)) ∧
              (¬ r6 = 0 →
                ∀ x10 : Int32, x10 = l3 + 1 →
                SR g (d + 1) iX11_areMoves 4 [(0, rf g 129), (1, .int l1), (2, .int 1), (3, .int x10)] I7 X8 (qI K))))))) : SR g (d + 1) iX11_areMoves 4 [(0, rf g 129), (1, .int l1), (2, .int l2), (3, .int l3)] I X (qI K) := by
  refine r_iload_n (n := 5) 3 dX11_areMoves_4 rfl rfl ?_
  refine r_aload_n (n := 6) 0 dX11_areMoves_5 rfl rfl ?_
  refine r_getR (n := 9) cls_10 5 fi_10_5 so_129 gw_1031 dX11_areMoves_6 rfl sr_129_5 (by decide) ?_
  refine r_iload_n (n := 10) 1 dX11_areMoves_9 rfl rfl ?_
  obtain ⟨hi1, H⟩ := H
  refine rs_iald (n := 11) sa_131 hi1 dX11_areMoves_10 rfl ?_
  refine r_icmp_ge (n := 14) (tgt := 45) dX11_areMoves_11 (by decide) rfl (fun c => ?_) (fun c => ?_)
  · have H := H.1 c
    refine r_iload_n (n := 46) 2 dX11_areMoves_45 rfl rfl ?_
    exact rs_zret dX11_areMoves_46 rfl H.1 H.2
  · have H := H.2 c
    refine r_iload_n (n := 15) 2 dX11_areMoves_14 rfl rfl ?_
    refine r_if_eq (n := 18) (tgt := 37) dX11_areMoves_15 (by decide) rfl (fun c => ?_) (fun c => ?_)
    · have H := H.1 c
      refine r_iconst (n := 38) (v := 0) dX11_areMoves_37 ki_0 rfl ?_
      refine r_istore_n (n := 39) (lv' := [(2, .int _), (0, .ref _), (1, .int _), (3, .int _)]) dX11_areMoves_38 rfl (by decide) rfl rfl ?_
      have H := H _ rfl
      refine r_iinc (n := 42) (lv' := [(3, .int _), (2, .int _), (0, .ref _), (1, .int _)]) 3 dX11_areMoves_39 rfl rfl (by decide) rfl rfl ?_
      refine r_goto (n := 4) dX11_areMoves_42 (by decide) ?_
      exact r_sub [2, 3, 1, 0] rfl H
    · have H := H.2 c
      refine r_aload_n (n := 19) 0 dX11_areMoves_18 rfl rfl ?_
      refine r_iload_n (n := 20) 1 dX11_areMoves_19 rfl rfl ?_
      refine r_iload_n (n := 21) 3 dX11_areMoves_20 rfl rfl ?_
      refine rs_cVi (n := 24) (rest := []) (As := [.int _, .int _]) vm_X11_rowAt gw_1180 so_129 cq_10 dX11_areMoves_21 rfl rfl (Nat.le_of_ble_eq_true rfl) rfl (CI.mono H (fun r3 I4 X5 H => ?_))
      refine r_iconst (n := 25) (v := 0) dX11_areMoves_24 ki_0 rfl ?_
      refine r_bipush (n := 27) (v := 36) dX11_areMoves_25 kb_36 rfl ?_
      refine rs_cSi (n := 30) (rest := []) (As := [.int _, .int _, .int _]) sm_X11_in gw_1150 dX11_areMoves_27 rfl rfl (Nat.le_of_ble_eq_true rfl) rfl (CI.mono H (fun r6 I7 X8 H => ?_))
      refine r_if_eq (n := 33) (tgt := 37) dX11_areMoves_30 (by decide) rfl (fun c => ?_) (fun c => ?_)
      · have H := H.1 c
        refine r_iconst (n := 38) (v := 0) dX11_areMoves_37 ki_0 rfl ?_
        refine r_istore_n (n := 39) (lv' := [(2, .int _), (0, .ref _), (1, .int _), (3, .int _)]) dX11_areMoves_38 rfl (by decide) rfl rfl ?_
        have H := H _ rfl
        refine r_iinc (n := 42) (lv' := [(3, .int _), (2, .int _), (0, .ref _), (1, .int _)]) 3 dX11_areMoves_39 rfl rfl (by decide) rfl rfl ?_
        refine r_goto (n := 4) dX11_areMoves_42 (by decide) ?_
        exact r_sub [2, 3, 1, 0] rfl H
      · have H := H.2 c
        refine r_iconst (n := 34) (v := 1) dX11_areMoves_33 ki_1 rfl ?_
        refine r_goto (n := 38) dX11_areMoves_34 (by decide) ?_
        refine r_istore_n (n := 39) (lv' := [(2, .int _), (0, .ref _), (1, .int _), (3, .int _)]) dX11_areMoves_38 rfl (by decide) rfl rfl ?_
        have H := H _ rfl
        refine r_iinc (n := 42) (lv' := [(3, .int _), (2, .int _), (0, .ref _), (1, .int _)]) 3 dX11_areMoves_39 rfl rfl (by decide) rfl rfl ?_
        refine r_goto (n := 4) dX11_areMoves_42 (by decide) ?_
        exact r_sub [2, 3, 1, 0] rfl H
set_option maxRecDepth 20000 in
theorem en_X11_run {g : OG} {d : Nat} {I : IT} {X : XT} {K : Int32 → IT → XT → Prop} {l1 : Int32} 
    (H : CI g d iX11_isRow [.int l1] I X (fun r1 I2 X3 =>
        (¬ r1 = 0 →
          (¬ (I2 129 10) = 0 →
            vp_in l1 6 ∧
            (0 ≤ (I2 131 l1.toNatClampNeg) →
              vp_in l1 6 ∧
              ((I2 131 l1.toNatClampNeg) ≤ 10 →
                CI g d iX11_areMoves [rf g 129, .int l1] I2 X3 (fun r6 I7 X8 =>
                  (¬ r6 = 0 →
                    CV g d iX11_copyTo [rf g 129, .int 0, .int 1] I7 X8 (fun I9 X10 =>
                      SR g (d + 1) iX11_run 73 [(0, rf g 129), (1, .int l1), (2, .int 0)] I9 X10 (qI K))) ∧
                  (r6 = 0 →
                    CI g d iX11_meets [rf g 129, .int 3] I7 X8 (fun r11 I12 X13 =>
                      K r11 I12 X13)))) ∧
              (¬ (I2 131 l1.toNatClampNeg) ≤ 10 →
                CI g d iX11_meets [rf g 129, .int 5] I2 X3 (fun r14 I15 X16 =>
                  K r14 I15 X16))) ∧
            (¬ 0 ≤ (I2 131 l1.toNatClampNeg) →
              CI g d iX11_meets [rf g 129, .int 1] I2 X3 (fun r17 I18 X19 =>
                K r17 I18 X19))) ∧
          ((I2 129 10) = 0 →
            K ((-4)) I2 X3)) ∧
        (r1 = 0 →
          K ((-1)) I2 X3))) : CI g (d + 1) iX11_run [rf g 129, .int l1] I X K := by
  refine ocall_of (by decide) (Nat.le_of_ble_eq_true rfl) ?_
  show SR g (d + 1) iX11_run 0 [(0, rf g 129), (1, .int l1)] I X (qI K)
  refine r_iload_n (n := 1) 1 dX11_run_0 rfl rfl ?_
  refine rs_cSi (n := 4) (rest := []) (As := [.int _]) sm_X11_isRow gw_1169 dX11_run_1 rfl rfl (Nat.le_of_ble_eq_true rfl) rfl (CI.mono H (fun r1 I2 X3 H => ?_))
  refine r_if_ne (n := 7) (tgt := 9) dX11_run_4 (by decide) rfl (fun c => ?_) (fun c => ?_)
  · have H := H.1 c
    refine r_aload_n (n := 10) 0 dX11_run_9 rfl rfl ?_
    refine rs_getI (n := 13) cls_10 10 fi_10_10 so_129 gw_1036 dX11_run_10 rfl ?_
    refine r_if_ne (n := 16) (tgt := 19) dX11_run_13 (by decide) rfl (fun c => ?_) (fun c => ?_)
    · have H := H.1 c
      refine r_aload_n (n := 20) 0 dX11_run_19 rfl rfl ?_
      refine r_getR (n := 23) cls_10 5 fi_10_5 so_129 gw_1031 dX11_run_20 rfl sr_129_5 (by decide) ?_
      refine r_iload_n (n := 24) 1 dX11_run_23 rfl rfl ?_
      obtain ⟨hi4, H⟩ := H
      refine rs_iald (n := 25) sa_131 hi4 dX11_run_24 rfl ?_
      refine r_if_ge (n := 28) (tgt := 34) dX11_run_25 (by decide) rfl (fun c => ?_) (fun c => ?_)
      · have H := H.1 c
        refine r_aload_n (n := 35) 0 dX11_run_34 rfl rfl ?_
        refine r_getR (n := 38) cls_10 5 fi_10_5 so_129 gw_1031 dX11_run_35 rfl sr_129_5 (by decide) ?_
        refine r_iload_n (n := 39) 1 dX11_run_38 rfl rfl ?_
        obtain ⟨hi5, H⟩ := H
        refine rs_iald (n := 40) sa_131 hi5 dX11_run_39 rfl ?_
        refine r_bipush (n := 42) (v := 10) dX11_run_40 kb_10 rfl ?_
        refine r_icmp_le (n := 45) (tgt := 51) dX11_run_42 (by decide) rfl (fun c => ?_) (fun c => ?_)
        · have H := H.1 c
          refine r_aload_n (n := 52) 0 dX11_run_51 rfl rfl ?_
          refine r_iload_n (n := 53) 1 dX11_run_52 rfl rfl ?_
          refine rs_cVi (n := 56) (rest := []) (As := [.int _]) vm_X11_areMoves gw_1450 so_129 cq_10 dX11_run_53 rfl rfl (Nat.le_of_ble_eq_true rfl) rfl (CI.mono H (fun r6 I7 X8 H => ?_))
          refine r_if_ne (n := 59) (tgt := 65) dX11_run_56 (by decide) rfl (fun c => ?_) (fun c => ?_)
          · have H := H.1 c
            refine r_aload_n (n := 66) 0 dX11_run_65 rfl rfl ?_
            refine r_iconst (n := 67) (v := 0) dX11_run_66 ki_0 rfl ?_
            refine r_iconst (n := 68) (v := 1) dX11_run_67 ki_1 rfl ?_
            refine rs_cVv (n := 71) (rest := []) (As := [.int _, .int _]) vm_X11_copyTo gw_1367 so_129 cq_10 dX11_run_68 rfl rfl (Nat.le_of_ble_eq_true rfl) rfl (CV.mono H (fun I9 X10 H => ?_))
            refine r_iconst (n := 72) (v := 0) dX11_run_71 ki_0 rfl ?_
            refine r_istore_n (n := 73) (lv' := [(2, .int _), (0, .ref _), (1, .int _)]) dX11_run_72 rfl (by decide) rfl rfl ?_
            exact r_sub [1, 2, 0] rfl H
          · have H := H.2 c
            refine r_aload_n (n := 60) 0 dX11_run_59 rfl rfl ?_
            refine r_iconst (n := 61) (v := 3) dX11_run_60 ki_3 rfl ?_
            refine rs_cVi (n := 64) (rest := []) (As := [.int _]) vm_X11_meets gw_1172 so_129 cq_10 dX11_run_61 rfl rfl (Nat.le_of_ble_eq_true rfl) rfl (CI.mono H (fun r11 I12 X13 H => ?_))
            exact rs_iret dX11_run_64 rfl H
        · have H := H.2 c
          refine r_aload_n (n := 46) 0 dX11_run_45 rfl rfl ?_
          refine r_iconst (n := 47) (v := 5) dX11_run_46 ki_5 rfl ?_
          refine rs_cVi (n := 50) (rest := []) (As := [.int _]) vm_X11_meets gw_1172 so_129 cq_10 dX11_run_47 rfl rfl (Nat.le_of_ble_eq_true rfl) rfl (CI.mono H (fun r14 I15 X16 H => ?_))
          exact rs_iret dX11_run_50 rfl H
      · have H := H.2 c
        refine r_aload_n (n := 29) 0 dX11_run_28 rfl rfl ?_
        refine r_iconst (n := 30) (v := 1) dX11_run_29 ki_1 rfl ?_
        refine rs_cVi (n := 33) (rest := []) (As := [.int _]) vm_X11_meets gw_1172 so_129 cq_10 dX11_run_30 rfl rfl (Nat.le_of_ble_eq_true rfl) rfl (CI.mono H (fun r17 I18 X19 H => ?_))
        exact rs_iret dX11_run_33 rfl H
    · have H := H.2 c
      refine r_bipush (n := 18) (v := (-4)) dX11_run_16 kb_m4 rfl ?_
      exact rs_iret dX11_run_18 rfl H
  · have H := H.2 c
    refine r_iconst (n := 8) (v := (-1)) dX11_run_7 ki_m1 rfl ?_
    exact rs_iret dX11_run_8 rfl H
set_option maxRecDepth 20000 in
theorem rg_X11_run_73 {g : OG} {d : Nat} {I : IT} {X : XT} {K : Int32 → IT → XT → Prop} {l1 : Int32} {l2 : Int32} 
    (H : vp_in l1 6 ∧
      ((I 131 l1.toNatClampNeg) ≤ l2 →
        SR g (d + 1) iX11_run 130 [(0, rf g 129), (2, .int 0), (3, .int 0)] I X (qI K)) ∧
      (¬ (I 131 l1.toNatClampNeg) ≤ l2 →
        CI g d iX11_rowAt [rf g 129, .int l1, .int l2] I X (fun r2 I3 X4 =>
          CI g d iX11_isNone [.int r2] I3 X4 (fun r5 I6 X7 =>
            (¬ r5 = 0 →
              CV g d iX11_passes [rf g 129, .int 1] I6 X7 (fun I8 X9 =>
                ∀ x10 : Int32, x10 = l2 + 1 →
                SR g (d + 1) iX11_run 73 [(0, rf g 129), (1, .int l1), (2, .int x10)] I8 X9 (qI K))) ∧
            (r5 = 0 →
              CI g d iX11_canMove [rf g 129, .int 1, .int r2] I6 X7 (fun r11 I12 X13 =>
                (r11 = 0 →
                  CV g d iX11_passes [rf g 129, .int 1] I12 X13 (fun I14 X15 =>
                    ∀ x16 : Int32, x16 = l2 + 1 →
                    SR g (d + 1) iX11_run 73 [(0, rf g 129), (1, .int l1), (2, .int x16)] I14 X15 (qI K))) ∧
                (¬ r11 = 0 →
                  CV g d iX11_carries [rf g 129, .int 1, .int (r2 - r2 / 6 * 6)] I12 X13 (fun I17 X18 =>
                    CV g d iX11_passes [rf g 129, .int 1] I17 X18 (fun I19 X20 =>
                      ∀ x21 : Int32, x21 = l2 + 1 →
                      SR g (d + 1) iX11_run 73 [(0, rf g 129), (1, .int l1), (2, .int x21)] I19 X20 (qI K)))))))))) : SR g (d + 1) iX11_run 73 [(0, rf g 129), (1, .int l1), (2, .int l2)] I X (qI K) := by
  refine r_iload_n (n := 74) 2 dX11_run_73 rfl rfl ?_
  refine r_aload_n (n := 75) 0 dX11_run_74 rfl rfl ?_
  refine r_getR (n := 78) cls_10 5 fi_10_5 so_129 gw_1031 dX11_run_75 rfl sr_129_5 (by decide) ?_
  refine r_iload_n (n := 79) 1 dX11_run_78 rfl rfl ?_
  obtain ⟨hi1, H⟩ := H
  refine rs_iald (n := 80) sa_131 hi1 dX11_run_79 rfl ?_
  refine r_icmp_ge (n := 83) (tgt := 126) dX11_run_80 (by decide) rfl (fun c => ?_) (fun c => ?_)
  · have H := H.1 c
    refine r_iconst (n := 127) (v := 0) dX11_run_126 ki_0 rfl ?_
    refine r_istore_n (n := 128) (lv' := [(2, .int _), (0, .ref _), (1, .int _)]) dX11_run_127 rfl (by decide) rfl rfl ?_
    refine r_iconst (n := 129) (v := 0) dX11_run_128 ki_0 rfl ?_
    refine r_istore_n (n := 130) (lv' := [(3, .int _), (2, .int _), (0, .ref _), (1, .int _)]) dX11_run_129 rfl (by decide) rfl rfl ?_
    exact r_sub [2, 1, 0] rfl H
  · have H := H.2 c
    refine r_aload_n (n := 84) 0 dX11_run_83 rfl rfl ?_
    refine r_iload_n (n := 85) 1 dX11_run_84 rfl rfl ?_
    refine r_iload_n (n := 86) 2 dX11_run_85 rfl rfl ?_
    refine rs_cVi (n := 89) (rest := []) (As := [.int _, .int _]) vm_X11_rowAt gw_1180 so_129 cq_10 dX11_run_86 rfl rfl (Nat.le_of_ble_eq_true rfl) rfl (CI.mono H (fun r2 I3 X4 H => ?_))
    refine r_istore_n (n := 90) (lv' := [(3, .int _), (0, .ref _), (1, .int _), (2, .int _)]) dX11_run_89 rfl (by decide) rfl rfl ?_
    refine r_iload_n (n := 91) 0 dX11_run_90 rfl rfl ?_
    refine rs_cSi (n := 94) (rest := []) (As := [.int _]) sm_X11_isNone gw_1415 dX11_run_91 rfl rfl (Nat.le_of_ble_eq_true rfl) rfl (CI.mono H (fun r5 I6 X7 H => ?_))
    refine r_if_ne (n := 97) (tgt := 115) dX11_run_94 (by decide) rfl (fun c => ?_) (fun c => ?_)
    · have H := H.1 c
      refine r_aload_n (n := 116) 1 dX11_run_115 rfl rfl ?_
      refine r_iconst (n := 117) (v := 1) dX11_run_116 ki_1 rfl ?_
      refine rs_cVv (n := 120) (rest := []) (As := [.int _]) vm_X11_passes gw_1332 so_129 cq_10 dX11_run_117 rfl rfl (Nat.le_of_ble_eq_true rfl) rfl (CV.mono H (fun I8 X9 H => ?_))
      have H := H _ rfl
      refine r_iinc (n := 123) (lv' := [(2, .int _), (3, .int _), (0, .ref _), (1, .int _)]) 3 dX11_run_120 rfl rfl (by decide) rfl rfl ?_
      refine r_goto (n := 73) dX11_run_123 (by decide) ?_
      exact r_sub [2, 3, 0] rfl H
    · have H := H.2 c
      refine r_aload_n (n := 98) 1 dX11_run_97 rfl rfl ?_
      refine r_iconst (n := 99) (v := 1) dX11_run_98 ki_1 rfl ?_
      refine r_iload_n (n := 100) 0 dX11_run_99 rfl rfl ?_
      refine rs_cVi (n := 103) (rest := []) (As := [.int _, .int _]) vm_X11_canMove gw_1411 so_129 cq_10 dX11_run_100 rfl rfl (Nat.le_of_ble_eq_true rfl) rfl (CI.mono H (fun r11 I12 X13 H => ?_))
      refine r_if_eq (n := 106) (tgt := 115) dX11_run_103 (by decide) rfl (fun c => ?_) (fun c => ?_)
      · have H := H.1 c
        refine r_aload_n (n := 116) 1 dX11_run_115 rfl rfl ?_
        refine r_iconst (n := 117) (v := 1) dX11_run_116 ki_1 rfl ?_
        refine rs_cVv (n := 120) (rest := []) (As := [.int _]) vm_X11_passes gw_1332 so_129 cq_10 dX11_run_117 rfl rfl (Nat.le_of_ble_eq_true rfl) rfl (CV.mono H (fun I14 X15 H => ?_))
        have H := H _ rfl
        refine r_iinc (n := 123) (lv' := [(2, .int _), (3, .int _), (0, .ref _), (1, .int _)]) 3 dX11_run_120 rfl rfl (by decide) rfl rfl ?_
        refine r_goto (n := 73) dX11_run_123 (by decide) ?_
        exact r_sub [2, 3, 0] rfl H
      · have H := H.2 c
        refine r_aload_n (n := 107) 1 dX11_run_106 rfl rfl ?_
        refine r_iconst (n := 108) (v := 1) dX11_run_107 ki_1 rfl ?_
        refine r_iload_n (n := 109) 0 dX11_run_108 rfl rfl ?_
        refine r_bipush (n := 111) (v := 6) dX11_run_109 kb_6 rfl ?_
        refine r_irem (n := 112) dX11_run_111 (by decide) rfl ?_
        refine rs_cVv (n := 115) (rest := []) (As := [.int _, .int _]) vm_X11_carries gw_1317 so_129 cq_10 dX11_run_112 rfl rfl (Nat.le_of_ble_eq_true rfl) rfl (CV.mono H (fun I17 X18 H => ?_))
        refine r_aload_n (n := 116) 1 dX11_run_115 rfl rfl ?_
        refine r_iconst (n := 117) (v := 1) dX11_run_116 ki_1 rfl ?_
        refine rs_cVv (n := 120) (rest := []) (As := [.int _]) vm_X11_passes gw_1332 so_129 cq_10 dX11_run_117 rfl rfl (Nat.le_of_ble_eq_true rfl) rfl (CV.mono H (fun I19 X20 H => ?_))
        have H := H _ rfl
        refine r_iinc (n := 123) (lv' := [(2, .int _), (3, .int _), (0, .ref _), (1, .int _)]) 3 dX11_run_120 rfl rfl (by decide) rfl rfl ?_
        refine r_goto (n := 73) dX11_run_123 (by decide) ?_
        exact r_sub [2, 3, 0] rfl H
set_option maxRecDepth 20000 in
theorem rg_X11_run_130 {g : OG} {d : Nat} {I : IT} {X : XT} {K : Int32 → IT → XT → Prop} {l2 : Int32} {l3 : Int32} 
    (H : ((I 129 10) ≤ l3 →
        CI g d iX11_burning [rf g 129, .int 1] I X (fun r1 I2 X3 =>
          CI g d iX11_tells [rf g 129, .int l2, .int r1] I2 X3 (fun r4 I5 X6 =>
            K r4 I5 X6))) ∧
      (¬ (I 129 10) ≤ l3 →
        vp_in (18 + l3) 216 ∧
        ∀ x8 : Int32, x8 = l2 + (I 142 (18 + l3).toNatClampNeg) →
        ∀ x9 : Int32, x9 = l3 + 1 →
        SR g (d + 1) iX11_run 130 [(0, rf g 129), (2, .int x8), (3, .int x9)] I X (qI K))) : SR g (d + 1) iX11_run 130 [(0, rf g 129), (2, .int l2), (3, .int l3)] I X (qI K) := by
  refine r_iload_n (n := 131) 2 dX11_run_130 rfl rfl ?_
  refine r_aload_n (n := 132) 0 dX11_run_131 rfl rfl ?_
  refine rs_getI (n := 135) cls_10 10 fi_10_10 so_129 gw_1036 dX11_run_132 rfl ?_
  refine r_icmp_ge (n := 138) (tgt := 156) dX11_run_135 (by decide) rfl (fun c => ?_) (fun c => ?_)
  · have H := H.1 c
    refine r_aload_n (n := 157) 0 dX11_run_156 rfl rfl ?_
    refine r_iload_n (n := 158) 1 dX11_run_157 rfl rfl ?_
    refine r_aload_n (n := 159) 0 dX11_run_158 rfl rfl ?_
    refine r_iconst (n := 160) (v := 1) dX11_run_159 ki_1 rfl ?_
    refine rs_cVi (n := 163) (rest := [.int _, .ref _]) (As := [.int _]) vm_X11_burning gw_1321 so_129 cq_10 dX11_run_160 rfl rfl (Nat.le_of_ble_eq_true rfl) rfl (CI.mono H (fun r1 I2 X3 H => ?_))
    refine rs_cVi (n := 166) (rest := []) (As := [.int _, .int _]) vm_X11_tells gw_1184 so_129 cq_10 dX11_run_163 rfl rfl (Nat.le_of_ble_eq_true rfl) rfl (CI.mono H (fun r4 I5 X6 H => ?_))
    exact rs_iret dX11_run_166 rfl H
  · have H := H.2 c
    refine r_iload_n (n := 139) 1 dX11_run_138 rfl rfl ?_
    refine r_aload_n (n := 140) 0 dX11_run_139 rfl rfl ?_
    refine r_getR (n := 143) cls_10 21 fi_10_21 so_129 gw_1047 dX11_run_140 rfl sr_129_21 (by decide) ?_
    refine r_bipush (n := 145) (v := 18) dX11_run_143 kb_18 rfl ?_
    refine r_iload_n (n := 146) 2 dX11_run_145 rfl rfl ?_
    refine r_iadd (n := 147) dX11_run_146 rfl ?_
    obtain ⟨hi7, H⟩ := H
    refine rs_iald (n := 148) sa_142 hi7 dX11_run_147 rfl ?_
    refine r_iadd (n := 149) dX11_run_148 rfl ?_
    have H := H _ rfl
    refine r_istore_n (n := 150) (lv' := [(2, .int _), (0, .ref _), (3, .int _)]) dX11_run_149 rfl (by decide) rfl rfl ?_
    have H := H _ rfl
    refine r_iinc (n := 153) (lv' := [(3, .int _), (2, .int _), (0, .ref _)]) 2 dX11_run_150 rfl rfl (by decide) rfl rfl ?_
    refine r_goto (n := 130) dX11_run_153 (by decide) ?_
    exact r_sub [2, 1, 0] rfl H
set_option maxRecDepth 20000 in
theorem en_X11_layFirst {g : OG} {d : Nat} {I : IT} {X : XT} {K : IT → XT → Prop} {l1 : Int32} 
    (H : SR g (d + 1) iX11_layFirst 2 [(0, rf g 129), (1, .int l1), (2, .int 0)] I X (qV K)) : CV g (d + 1) iX11_layFirst [rf g 129, .int l1] I X K := by
  refine ocall_of (by decide) (Nat.le_of_ble_eq_true rfl) ?_
  show SR g (d + 1) iX11_layFirst 0 [(0, rf g 129), (1, .int l1)] I X (qV K)
  refine r_iconst (n := 1) (v := 0) dX11_layFirst_0 ki_0 rfl ?_
  refine r_istore_n (n := 2) (lv' := [(2, .int _), (0, .ref _), (1, .int _)]) dX11_layFirst_1 rfl (by decide) rfl rfl ?_
  exact r_sub [1, 2, 0] rfl H
set_option maxRecDepth 20000 in
theorem rg_X11_layFirst_2 {g : OG} {d : Nat} {I : IT} {X : XT} {K : IT → XT → Prop} {l1 : Int32} {l2 : Int32} 
    (H : (18 ≤ l2 →
        K I X) ∧
      (¬ 18 ≤ l2 →
        vp_in l2 18 ∧
        vp_in ((18 * l1) + l2) 216 ∧
        ∀ I3 : IT, I3 = set2 I 142 ((18 * l1) + l2).toNatClampNeg (I 141 l2.toNatClampNeg) →
        ∀ x4 : Int32, x4 = l2 + 1 →
        SR g (d + 1) iX11_layFirst 2 [(0, rf g 129), (1, .int l1), (2, .int x4)] I3 X (qV K))) : SR g (d + 1) iX11_layFirst 2 [(0, rf g 129), (1, .int l1), (2, .int l2)] I X (qV K) := by
  refine r_iload_n (n := 3) 2 dX11_layFirst_2 rfl rfl ?_
  refine r_bipush (n := 5) (v := 18) dX11_layFirst_3 kb_18 rfl ?_
  refine r_icmp_ge (n := 8) (tgt := 31) dX11_layFirst_5 (by decide) rfl (fun c => ?_) (fun c => ?_)
  · have H := H.1 c
    exact rs_vret dX11_layFirst_31 rfl H
  · have H := H.2 c
    refine r_aload_n (n := 9) 0 dX11_layFirst_8 rfl rfl ?_
    refine r_getR (n := 12) cls_10 21 fi_10_21 so_129 gw_1047 dX11_layFirst_9 rfl sr_129_21 (by decide) ?_
    refine r_bipush (n := 14) (v := 18) dX11_layFirst_12 kb_18 rfl ?_
    refine r_iload_n (n := 15) 1 dX11_layFirst_14 rfl rfl ?_
    refine r_imul (n := 16) dX11_layFirst_15 rfl ?_
    refine r_iload_n (n := 17) 2 dX11_layFirst_16 rfl rfl ?_
    refine r_iadd (n := 18) dX11_layFirst_17 rfl ?_
    refine r_aload_n (n := 19) 0 dX11_layFirst_18 rfl rfl ?_
    refine r_getR (n := 22) cls_10 20 fi_10_20 so_129 gw_1046 dX11_layFirst_19 rfl sr_129_20 (by decide) ?_
    refine r_iload_n (n := 23) 2 dX11_layFirst_22 rfl rfl ?_
    obtain ⟨hi1, H⟩ := H
    refine rs_iald (n := 24) sa_141 hi1 dX11_layFirst_23 rfl ?_
    obtain ⟨hi2, H⟩ := H
    have H := H _ rfl
    refine rs_iast (n := 25) sa_142 hi2 dX11_layFirst_24 rfl ?_
    have H := H _ rfl
    refine r_iinc (n := 28) (lv' := [(2, .int _), (0, .ref _), (1, .int _)]) 2 dX11_layFirst_25 rfl rfl (by decide) rfl rfl ?_
    refine r_goto (n := 2) dX11_layFirst_28 (by decide) ?_
    exact r_sub [1, 2, 0] rfl H
set_option maxRecDepth 20000 in
theorem en_X11_where {g : OG} {d : Nat} {I : IT} {X : XT} {K : Int32 → IT → XT → Prop}  
    (H : CV g d iX11_layFirst [rf g 129, .int 2] I X (fun I1 X2 =>
        CI g d iX11_catching [rf g 129, .int 2] I1 X2 (fun r3 I4 X5 =>
          SR g (d + 1) iX11_where 19 [(0, rf g 129), (1, .int r3), (2, .int ((-9))), (3, .int ((-1))), (4, .int 0)] I4 X5 (qI K)))) : CI g (d + 1) iX11_where [rf g 129] I X K := by
  refine ocall_of (by decide) (Nat.le_of_ble_eq_true rfl) ?_
  show SR g (d + 1) iX11_where 0 [(0, rf g 129)] I X (qI K)
  refine r_aload_n (n := 1) 0 dX11_where_0 rfl rfl ?_
  refine r_iconst (n := 2) (v := 2) dX11_where_1 ki_2 rfl ?_
  refine rs_cVv (n := 5) (rest := []) (As := [.int _]) vm_X11_layFirst gw_1458 so_129 cq_10 dX11_where_2 rfl rfl (Nat.le_of_ble_eq_true rfl) rfl (CV.mono H (fun I1 X2 H => ?_))
  refine r_aload_n (n := 6) 0 dX11_where_5 rfl rfl ?_
  refine r_iconst (n := 7) (v := 2) dX11_where_6 ki_2 rfl ?_
  refine rs_cVi (n := 10) (rest := []) (As := [.int _]) vm_X11_catching gw_1355 so_129 cq_10 dX11_where_7 rfl rfl (Nat.le_of_ble_eq_true rfl) rfl (CI.mono H (fun r3 I4 X5 H => ?_))
  refine r_istore_n (n := 11) (lv' := [(1, .int _), (0, .ref _)]) dX11_where_10 rfl (by decide) rfl rfl ?_
  refine r_bipush (n := 13) (v := (-9)) dX11_where_11 kb_m9 rfl ?_
  refine r_istore_n (n := 14) (lv' := [(2, .int _), (1, .int _), (0, .ref _)]) dX11_where_13 rfl (by decide) rfl rfl ?_
  refine r_iconst (n := 15) (v := (-1)) dX11_where_14 ki_m1 rfl ?_
  refine r_istore_n (n := 16) (lv' := [(3, .int _), (2, .int _), (1, .int _), (0, .ref _)]) dX11_where_15 rfl (by decide) rfl rfl ?_
  refine r_iconst (n := 17) (v := 0) dX11_where_16 ki_0 rfl ?_
  refine r_istore (n := 19) (lv' := [(4, .int _), (3, .int _), (2, .int _), (1, .int _), (0, .ref _)]) dX11_where_17 (by decide) rfl rfl ?_
  exact r_sub [4, 3, 2, 1, 0] rfl H
set_option maxRecDepth 20000 in
theorem rg_X11_where_19 {g : OG} {d : Nat} {I : IT} {X : XT} {K : Int32 → IT → XT → Prop} {l1 : Int32} {l2 : Int32} {l3 : Int32} {l4 : Int32} 
    (H : ((I 129 10) ≤ l4 →
        CI g d iX11_tells [rf g 129, .int l2, .int l1] I X (fun r1 I2 X3 =>
          K r1 I2 X3)) ∧
      (¬ (I 129 10) ≤ l4 →
        CI g d iX11_has [.int l1, .int l4] I X (fun r4 I5 X6 =>
          (r4 = 0 →
            ∀ x7 : Int32, x7 = l4 + 1 →
            SR g (d + 1) iX11_where 19 [(0, rf g 129), (1, .int l1), (2, .int l2), (3, .int l3), (4, .int x7)] I5 X6 (qI K)) ∧
          (¬ r4 = 0 →
            CV g d iX11_layFirst [rf g 129, .int 1] I5 X6 (fun I8 X9 =>
              vp_in (28 + l4) 216 ∧
              ∀ I11 : IT, I11 = set2 I8 142 (28 + l4).toNatClampNeg 1 →
              CI g d iX11_outOf [rf g 129, .int (1 <<< (l4 &&& 31))] I11 X9 (fun r12 I13 X14 =>
                (r12 ≤ l3 →
                  (r12 ≤ l3 →
                    ∀ x15 : Int32, x15 = l4 + 1 →
                    SR g (d + 1) iX11_where 19 [(0, rf g 129), (1, .int l1), (2, .int l2), (3, .int l3), (4, .int x15)] I13 X14 (qI K)) ∧
                  (¬ r12 ≤ l3 →
                    ∀ x16 : Int32, x16 = l4 + 1 →
                    SR g (d + 1) iX11_where 19 [(0, rf g 129), (1, .int l1), (2, .int l2), (3, .int r12), (4, .int x16)] I13 X14 (qI K))) ∧
                (¬ r12 ≤ l3 →
                  (r12 ≤ l3 →
                    ∀ x17 : Int32, x17 = l4 + 1 →
                    SR g (d + 1) iX11_where 19 [(0, rf g 129), (1, .int l1), (2, .int l4), (3, .int l3), (4, .int x17)] I13 X14 (qI K)) ∧
                  (¬ r12 ≤ l3 →
                    ∀ x18 : Int32, x18 = l4 + 1 →
                    SR g (d + 1) iX11_where 19 [(0, rf g 129), (1, .int l1), (2, .int l4), (3, .int r12), (4, .int x18)] I13 X14 (qI K))))))))) : SR g (d + 1) iX11_where 19 [(0, rf g 129), (1, .int l1), (2, .int l2), (3, .int l3), (4, .int l4)] I X (qI K) := by
  refine r_iload (n := 21) 4 dX11_where_19 rfl rfl ?_
  refine r_aload_n (n := 22) 0 dX11_where_21 rfl rfl ?_
  refine rs_getI (n := 25) cls_10 10 fi_10_10 so_129 gw_1036 dX11_where_22 rfl ?_
  refine r_icmp_ge (n := 28) (tgt := 95) dX11_where_25 (by decide) rfl (fun c => ?_) (fun c => ?_)
  · have H := H.1 c
    refine r_aload_n (n := 96) 0 dX11_where_95 rfl rfl ?_
    refine r_iload_n (n := 97) 2 dX11_where_96 rfl rfl ?_
    refine r_iload_n (n := 98) 1 dX11_where_97 rfl rfl ?_
    refine rs_cVi (n := 101) (rest := []) (As := [.int _, .int _]) vm_X11_tells gw_1184 so_129 cq_10 dX11_where_98 rfl rfl (Nat.le_of_ble_eq_true rfl) rfl (CI.mono H (fun r1 I2 X3 H => ?_))
    exact rs_iret dX11_where_101 rfl H
  · have H := H.2 c
    refine r_iload_n (n := 29) 1 dX11_where_28 rfl rfl ?_
    refine r_iload (n := 31) 4 dX11_where_29 rfl rfl ?_
    refine rs_cSi (n := 34) (rest := []) (As := [.int _, .int _]) sm_X11_has gw_1336 dX11_where_31 rfl rfl (Nat.le_of_ble_eq_true rfl) rfl (CI.mono H (fun r4 I5 X6 H => ?_))
    refine r_if_eq (n := 37) (tgt := 89) dX11_where_34 (by decide) rfl (fun c => ?_) (fun c => ?_)
    · have H := H.1 c
      have H := H _ rfl
      refine r_iinc (n := 92) (lv' := [(4, .int _), (0, .ref _), (1, .int _), (2, .int _), (3, .int _)]) 4 dX11_where_89 rfl rfl (by decide) rfl rfl ?_
      refine r_goto (n := 19) dX11_where_92 (by decide) ?_
      exact r_sub [1, 2, 3, 4, 0] rfl H
    · have H := H.2 c
      refine r_aload_n (n := 38) 0 dX11_where_37 rfl rfl ?_
      refine r_iconst (n := 39) (v := 1) dX11_where_38 ki_1 rfl ?_
      refine rs_cVv (n := 42) (rest := []) (As := [.int _]) vm_X11_layFirst gw_1458 so_129 cq_10 dX11_where_39 rfl rfl (Nat.le_of_ble_eq_true rfl) rfl (CV.mono H (fun I8 X9 H => ?_))
      refine r_aload_n (n := 43) 0 dX11_where_42 rfl rfl ?_
      refine r_getR (n := 46) cls_10 21 fi_10_21 so_129 gw_1047 dX11_where_43 rfl sr_129_21 (by decide) ?_
      refine r_bipush (n := 48) (v := 28) dX11_where_46 kb_28 rfl ?_
      refine r_iload (n := 50) 4 dX11_where_48 rfl rfl ?_
      refine r_iadd (n := 51) dX11_where_50 rfl ?_
      refine r_iconst (n := 52) (v := 1) dX11_where_51 ki_1 rfl ?_
      obtain ⟨hi10, H⟩ := H
      have H := H _ rfl
      refine rs_iast (n := 53) sa_142 hi10 dX11_where_52 rfl ?_
      refine r_aload_n (n := 54) 0 dX11_where_53 rfl rfl ?_
      refine r_iconst (n := 55) (v := 1) dX11_where_54 ki_1 rfl ?_
      refine r_iload (n := 57) 4 dX11_where_55 rfl rfl ?_
      refine r_ishl (n := 58) dX11_where_57 rfl ?_
      refine rs_cVi (n := 61) (rest := []) (As := [.int _]) vm_X11_outOf gw_1371 so_129 cq_10 dX11_where_58 rfl rfl (Nat.le_of_ble_eq_true rfl) rfl (CI.mono H (fun r12 I13 X14 H => ?_))
      refine r_istore (n := 63) (lv' := [(5, .int _), (0, .ref _), (1, .int _), (2, .int _), (3, .int _), (4, .int _)]) dX11_where_61 (by decide) rfl rfl ?_
      refine r_iload (n := 65) 0 dX11_where_63 rfl rfl ?_
      refine r_iload_n (n := 66) 4 dX11_where_65 rfl rfl ?_
      refine r_icmp_le (n := 69) (tgt := 74) dX11_where_66 (by decide) rfl (fun c => ?_) (fun c => ?_)
      · have H := H.1 c
        refine r_iload_n (n := 75) 3 dX11_where_74 rfl rfl ?_
        refine r_istore_n (n := 76) (lv' := [(2, .int _), (5, .int _), (0, .ref _), (1, .int _), (3, .int _), (4, .int _)]) dX11_where_75 rfl (by decide) rfl rfl ?_
        refine r_iload (n := 78) 1 dX11_where_76 rfl rfl ?_
        refine r_iload_n (n := 79) 4 dX11_where_78 rfl rfl ?_
        refine r_icmp_le (n := 82) (tgt := 87) dX11_where_79 (by decide) rfl (fun c => ?_) (fun c => ?_)
        · have H := H.1 c
          refine r_iload_n (n := 88) 4 dX11_where_87 rfl rfl ?_
          refine r_istore_n (n := 89) (lv' := [(3, .int _), (2, .int _), (5, .int _), (0, .ref _), (1, .int _), (4, .int _)]) dX11_where_88 rfl (by decide) rfl rfl ?_
          have H := H _ rfl
          refine r_iinc (n := 92) (lv' := [(4, .int _), (3, .int _), (2, .int _), (5, .int _), (0, .ref _), (1, .int _)]) 5 dX11_where_89 rfl rfl (by decide) rfl rfl ?_
          refine r_goto (n := 19) dX11_where_92 (by decide) ?_
          exact r_sub [4, 5, 2, 1, 0] rfl H
        · have H := H.2 c
          refine r_iload (n := 84) 1 dX11_where_82 rfl rfl ?_
          refine r_goto (n := 88) dX11_where_84 (by decide) ?_
          refine r_istore_n (n := 89) (lv' := [(3, .int _), (2, .int _), (5, .int _), (0, .ref _), (1, .int _), (4, .int _)]) dX11_where_88 rfl (by decide) rfl rfl ?_
          have H := H _ rfl
          refine r_iinc (n := 92) (lv' := [(4, .int _), (3, .int _), (2, .int _), (5, .int _), (0, .ref _), (1, .int _)]) 5 dX11_where_89 rfl rfl (by decide) rfl rfl ?_
          refine r_goto (n := 19) dX11_where_92 (by decide) ?_
          exact r_sub [4, 5, 2, 1, 0] rfl H
      · have H := H.2 c
        refine r_iload (n := 71) 5 dX11_where_69 rfl rfl ?_
        refine r_goto (n := 75) dX11_where_71 (by decide) ?_
        refine r_istore_n (n := 76) (lv' := [(2, .int _), (5, .int _), (0, .ref _), (1, .int _), (3, .int _), (4, .int _)]) dX11_where_75 rfl (by decide) rfl rfl ?_
        refine r_iload (n := 78) 1 dX11_where_76 rfl rfl ?_
        refine r_iload_n (n := 79) 4 dX11_where_78 rfl rfl ?_
        refine r_icmp_le (n := 82) (tgt := 87) dX11_where_79 (by decide) rfl (fun c => ?_) (fun c => ?_)
        · have H := H.1 c
          refine r_iload_n (n := 88) 4 dX11_where_87 rfl rfl ?_
          refine r_istore_n (n := 89) (lv' := [(3, .int _), (2, .int _), (5, .int _), (0, .ref _), (1, .int _), (4, .int _)]) dX11_where_88 rfl (by decide) rfl rfl ?_
          have H := H _ rfl
          refine r_iinc (n := 92) (lv' := [(4, .int _), (3, .int _), (2, .int _), (5, .int _), (0, .ref _), (1, .int _)]) 5 dX11_where_89 rfl rfl (by decide) rfl rfl ?_
          refine r_goto (n := 19) dX11_where_92 (by decide) ?_
          exact r_sub [4, 5, 2, 1, 0] rfl H
        · have H := H.2 c
          refine r_iload (n := 84) 1 dX11_where_82 rfl rfl ?_
          refine r_goto (n := 88) dX11_where_84 (by decide) ?_
          refine r_istore_n (n := 89) (lv' := [(3, .int _), (2, .int _), (5, .int _), (0, .ref _), (1, .int _), (4, .int _)]) dX11_where_88 rfl (by decide) rfl rfl ?_
          have H := H _ rfl
          refine r_iinc (n := 92) (lv' := [(4, .int _), (3, .int _), (2, .int _), (5, .int _), (0, .ref _), (1, .int _)]) 5 dX11_where_89 rfl rfl (by decide) rfl rfl ?_
          refine r_goto (n := 19) dX11_where_92 (by decide) ?_
          exact r_sub [4, 5, 2, 1, 0] rfl H
set_option maxRecDepth 20000 in
theorem en_X11_needBook {g : OG} {d : Nat} {I : IT} {X : XT} {K : Int32 → IT → XT → Prop} {l1 : Int32} {l2 : Int32} 
    (H : (l2 = 0 →
        K ((-1)) I X) ∧
      (¬ l2 = 0 →
        CI g d iX11_isRow [.int l1] I X (fun r1 I2 X3 =>
          (¬ r1 = 0 →
            (¬ (I2 129 10) = 0 →
              vp_in l1 6 ∧
              (0 ≤ (I2 131 l1.toNatClampNeg) →
                vp_in l1 6 ∧
                CI g d iX11_in [.int (I2 131 l1.toNatClampNeg), .int 1, .int 5] I2 X3 (fun r6 I7 X8 =>
                  (¬ r6 = 0 →
                    SR g (d + 1) iX11_needBook 63 [(0, rf g 129), (1, .int l1), (3, .int 1), (4, .int 0)] I7 X8 (qI K)) ∧
                  (r6 = 0 →
                    CI g d iX11_meets [rf g 129, .int 5] I7 X8 (fun r9 I10 X11 =>
                      K r9 I10 X11)))) ∧
              (¬ 0 ≤ (I2 131 l1.toNatClampNeg) →
                CI g d iX11_meets [rf g 129, .int 1] I2 X3 (fun r12 I13 X14 =>
                  K r12 I13 X14))) ∧
            ((I2 129 10) = 0 →
              K ((-4)) I2 X3)) ∧
          (r1 = 0 →
            K ((-1)) I2 X3)))) : CI g (d + 1) iX11_needBook [rf g 129, .int l1, .int l2] I X K := by
  refine ocall_of (by decide) (Nat.le_of_ble_eq_true rfl) ?_
  show SR g (d + 1) iX11_needBook 0 [(0, rf g 129), (1, .int l1), (2, .int l2)] I X (qI K)
  refine r_iload_n (n := 1) 2 dX11_needBook_0 rfl rfl ?_
  refine r_if_eq (n := 4) (tgt := 11) dX11_needBook_1 (by decide) rfl (fun c => ?_) (fun c => ?_)
  · have H := H.1 c
    refine r_iconst (n := 12) (v := (-1)) dX11_needBook_11 ki_m1 rfl ?_
    exact rs_iret dX11_needBook_12 rfl H
  · have H := H.2 c
    refine r_iload_n (n := 5) 1 dX11_needBook_4 rfl rfl ?_
    refine rs_cSi (n := 8) (rest := []) (As := [.int _]) sm_X11_isRow gw_1169 dX11_needBook_5 rfl rfl (Nat.le_of_ble_eq_true rfl) rfl (CI.mono H (fun r1 I2 X3 H => ?_))
    refine r_if_ne (n := 11) (tgt := 13) dX11_needBook_8 (by decide) rfl (fun c => ?_) (fun c => ?_)
    · have H := H.1 c
      refine r_aload_n (n := 14) 0 dX11_needBook_13 rfl rfl ?_
      refine rs_getI (n := 17) cls_10 10 fi_10_10 so_129 gw_1036 dX11_needBook_14 rfl ?_
      refine r_if_ne (n := 20) (tgt := 23) dX11_needBook_17 (by decide) rfl (fun c => ?_) (fun c => ?_)
      · have H := H.1 c
        refine r_aload_n (n := 24) 0 dX11_needBook_23 rfl rfl ?_
        refine r_getR (n := 27) cls_10 5 fi_10_5 so_129 gw_1031 dX11_needBook_24 rfl sr_129_5 (by decide) ?_
        refine r_iload_n (n := 28) 1 dX11_needBook_27 rfl rfl ?_
        obtain ⟨hi4, H⟩ := H
        refine rs_iald (n := 29) sa_131 hi4 dX11_needBook_28 rfl ?_
        refine r_if_ge (n := 32) (tgt := 38) dX11_needBook_29 (by decide) rfl (fun c => ?_) (fun c => ?_)
        · have H := H.1 c
          refine r_aload_n (n := 39) 0 dX11_needBook_38 rfl rfl ?_
          refine r_getR (n := 42) cls_10 5 fi_10_5 so_129 gw_1031 dX11_needBook_39 rfl sr_129_5 (by decide) ?_
          refine r_iload_n (n := 43) 1 dX11_needBook_42 rfl rfl ?_
          obtain ⟨hi5, H⟩ := H
          refine rs_iald (n := 44) sa_131 hi5 dX11_needBook_43 rfl ?_
          refine r_iconst (n := 45) (v := 1) dX11_needBook_44 ki_1 rfl ?_
          refine r_iconst (n := 46) (v := 5) dX11_needBook_45 ki_5 rfl ?_
          refine rs_cSi (n := 49) (rest := []) (As := [.int _, .int _, .int _]) sm_X11_in gw_1150 dX11_needBook_46 rfl rfl (Nat.le_of_ble_eq_true rfl) rfl (CI.mono H (fun r6 I7 X8 H => ?_))
          refine r_if_ne (n := 52) (tgt := 58) dX11_needBook_49 (by decide) rfl (fun c => ?_) (fun c => ?_)
          · have H := H.1 c
            refine r_iconst (n := 59) (v := 1) dX11_needBook_58 ki_1 rfl ?_
            refine r_istore_n (n := 60) (lv' := [(3, .int _), (0, .ref _), (1, .int _), (2, .int _)]) dX11_needBook_59 rfl (by decide) rfl rfl ?_
            refine r_iconst (n := 61) (v := 0) dX11_needBook_60 ki_0 rfl ?_
            refine r_istore (n := 63) (lv' := [(4, .int _), (3, .int _), (0, .ref _), (1, .int _), (2, .int _)]) dX11_needBook_61 (by decide) rfl rfl ?_
            exact r_sub [2, 3, 1, 0] rfl H
          · have H := H.2 c
            refine r_aload_n (n := 53) 0 dX11_needBook_52 rfl rfl ?_
            refine r_iconst (n := 54) (v := 5) dX11_needBook_53 ki_5 rfl ?_
            refine rs_cVi (n := 57) (rest := []) (As := [.int _]) vm_X11_meets gw_1172 so_129 cq_10 dX11_needBook_54 rfl rfl (Nat.le_of_ble_eq_true rfl) rfl (CI.mono H (fun r9 I10 X11 H => ?_))
            exact rs_iret dX11_needBook_57 rfl H
        · have H := H.2 c
          refine r_aload_n (n := 33) 0 dX11_needBook_32 rfl rfl ?_
          refine r_iconst (n := 34) (v := 1) dX11_needBook_33 ki_1 rfl ?_
          refine rs_cVi (n := 37) (rest := []) (As := [.int _]) vm_X11_meets gw_1172 so_129 cq_10 dX11_needBook_34 rfl rfl (Nat.le_of_ble_eq_true rfl) rfl (CI.mono H (fun r12 I13 X14 H => ?_))
          exact rs_iret dX11_needBook_37 rfl H
      · have H := H.2 c
        refine r_bipush (n := 22) (v := (-4)) dX11_needBook_20 kb_m4 rfl ?_
        exact rs_iret dX11_needBook_22 rfl H
    · have H := H.2 c
      refine r_iconst (n := 12) (v := (-1)) dX11_needBook_11 ki_m1 rfl ?_
      exact rs_iret dX11_needBook_12 rfl H
set_option maxRecDepth 20000 in
theorem rg_X11_needBook_63 {g : OG} {d : Nat} {I : IT} {X : XT} {K : Int32 → IT → XT → Prop} {l1 : Int32} {l3 : Int32} {l4 : Int32} 
    (H : vp_in l1 6 ∧
      ((I 131 l1.toNatClampNeg) ≤ l4 →
        (l3 = 0 →
          CI g d iX11_meets [rf g 129, .int 3] I X (fun r2 I3 X4 =>
            K r2 I3 X4)) ∧
        (¬ l3 = 0 →
          K 0 I X)) ∧
      (¬ (I 131 l1.toNatClampNeg) ≤ l4 →
        (l3 = 0 →
          ∀ x5 : Int32, x5 = l4 + 1 →
          SR g (d + 1) iX11_needBook 63 [(0, rf g 129), (1, .int l1), (3, .int 0), (4, .int x5)] I X (qI K)) ∧
        (¬ l3 = 0 →
          CI g d iX11_rowAt [rf g 129, .int l1, .int l4] I X (fun r6 I7 X8 =>
            CI g d iX11_everybody [rf g 129] I7 X8 (fun r9 I10 X11 =>
              CI g d iX11_in [.int r6, .int 0, .int r9] I10 X11 (fun r12 I13 X14 =>
                (r12 = 0 →
                  ∀ x15 : Int32, x15 = l4 + 1 →
                  SR g (d + 1) iX11_needBook 63 [(0, rf g 129), (1, .int l1), (3, .int 0), (4, .int x15)] I13 X14 (qI K)) ∧
                (¬ r12 = 0 →
                  ∀ x16 : Int32, x16 = l4 + 1 →
                  SR g (d + 1) iX11_needBook 63 [(0, rf g 129), (1, .int l1), (3, .int 1), (4, .int x16)] I13 X14 (qI K)))))))) : SR g (d + 1) iX11_needBook 63 [(0, rf g 129), (1, .int l1), (3, .int l3), (4, .int l4)] I X (qI K) := by
  refine r_iload (n := 65) 3 dX11_needBook_63 rfl rfl ?_
  refine r_aload_n (n := 66) 0 dX11_needBook_65 rfl rfl ?_
  refine r_getR (n := 69) cls_10 5 fi_10_5 so_129 gw_1031 dX11_needBook_66 rfl sr_129_5 (by decide) ?_
  refine r_iload_n (n := 70) 1 dX11_needBook_69 rfl rfl ?_
  obtain ⟨hi1, H⟩ := H
  refine rs_iald (n := 71) sa_131 hi1 dX11_needBook_70 rfl ?_
  refine r_icmp_ge (n := 74) (tgt := 108) dX11_needBook_71 (by decide) rfl (fun c => ?_) (fun c => ?_)
  · have H := H.1 c
    refine r_iload_n (n := 109) 2 dX11_needBook_108 rfl rfl ?_
    refine r_if_eq (n := 112) (tgt := 116) dX11_needBook_109 (by decide) rfl (fun c => ?_) (fun c => ?_)
    · have H := H.1 c
      refine r_aload_n (n := 117) 0 dX11_needBook_116 rfl rfl ?_
      refine r_iconst (n := 118) (v := 3) dX11_needBook_117 ki_3 rfl ?_
      refine rs_cVi (n := 121) (rest := []) (As := [.int _]) vm_X11_meets gw_1172 so_129 cq_10 dX11_needBook_118 rfl rfl (Nat.le_of_ble_eq_true rfl) rfl (CI.mono H (fun r2 I3 X4 H => ?_))
      exact rs_iret dX11_needBook_121 rfl H
    · have H := H.2 c
      refine r_iconst (n := 113) (v := 0) dX11_needBook_112 ki_0 rfl ?_
      refine r_goto (n := 121) dX11_needBook_113 (by decide) ?_
      exact rs_iret dX11_needBook_121 rfl H
  · have H := H.2 c
    refine r_iload_n (n := 75) 2 dX11_needBook_74 rfl rfl ?_
    refine r_if_eq (n := 78) (tgt := 100) dX11_needBook_75 (by decide) rfl (fun c => ?_) (fun c => ?_)
    · have H := H.1 c
      refine r_iconst (n := 101) (v := 0) dX11_needBook_100 ki_0 rfl ?_
      refine r_istore_n (n := 102) (lv' := [(3, .int _), (0, .ref _), (1, .int _), (4, .int _)]) dX11_needBook_101 rfl (by decide) rfl rfl ?_
      have H := H _ rfl
      refine r_iinc (n := 105) (lv' := [(4, .int _), (3, .int _), (0, .ref _), (1, .int _)]) 3 dX11_needBook_102 rfl rfl (by decide) rfl rfl ?_
      refine r_goto (n := 63) dX11_needBook_105 (by decide) ?_
      exact r_sub [2, 3, 1, 0] rfl H
    · have H := H.2 c
      refine r_aload_n (n := 79) 0 dX11_needBook_78 rfl rfl ?_
      refine r_iload_n (n := 80) 1 dX11_needBook_79 rfl rfl ?_
      refine r_iload (n := 82) 3 dX11_needBook_80 rfl rfl ?_
      refine rs_cVi (n := 85) (rest := []) (As := [.int _, .int _]) vm_X11_rowAt gw_1180 so_129 cq_10 dX11_needBook_82 rfl rfl (Nat.le_of_ble_eq_true rfl) rfl (CI.mono H (fun r6 I7 X8 H => ?_))
      refine r_iconst (n := 86) (v := 0) dX11_needBook_85 ki_0 rfl ?_
      refine r_aload_n (n := 87) 0 dX11_needBook_86 rfl rfl ?_
      refine rs_cVi (n := 90) (rest := [.int _, .int _]) (As := []) vm_X11_everybody gw_1379 so_129 cq_10 dX11_needBook_87 rfl rfl (Nat.le_of_ble_eq_true rfl) rfl (CI.mono H (fun r9 I10 X11 H => ?_))
      refine rs_cSi (n := 93) (rest := []) (As := [.int _, .int _, .int _]) sm_X11_in gw_1150 dX11_needBook_90 rfl rfl (Nat.le_of_ble_eq_true rfl) rfl (CI.mono H (fun r12 I13 X14 H => ?_))
      refine r_if_eq (n := 96) (tgt := 100) dX11_needBook_93 (by decide) rfl (fun c => ?_) (fun c => ?_)
      · have H := H.1 c
        refine r_iconst (n := 101) (v := 0) dX11_needBook_100 ki_0 rfl ?_
        refine r_istore_n (n := 102) (lv' := [(3, .int _), (0, .ref _), (1, .int _), (4, .int _)]) dX11_needBook_101 rfl (by decide) rfl rfl ?_
        have H := H _ rfl
        refine r_iinc (n := 105) (lv' := [(4, .int _), (3, .int _), (0, .ref _), (1, .int _)]) 3 dX11_needBook_102 rfl rfl (by decide) rfl rfl ?_
        refine r_goto (n := 63) dX11_needBook_105 (by decide) ?_
        exact r_sub [2, 3, 1, 0] rfl H
      · have H := H.2 c
        refine r_iconst (n := 97) (v := 1) dX11_needBook_96 ki_1 rfl ?_
        refine r_goto (n := 101) dX11_needBook_97 (by decide) ?_
        refine r_istore_n (n := 102) (lv' := [(3, .int _), (0, .ref _), (1, .int _), (4, .int _)]) dX11_needBook_101 rfl (by decide) rfl rfl ?_
        have H := H _ rfl
        refine r_iinc (n := 105) (lv' := [(4, .int _), (3, .int _), (0, .ref _), (1, .int _)]) 3 dX11_needBook_102 rfl rfl (by decide) rfl rfl ?_
        refine r_goto (n := 63) dX11_needBook_105 (by decide) ?_
        exact r_sub [2, 3, 1, 0] rfl H
set_option maxRecDepth 20000 in
theorem en_X11_smokes {g : OG} {d : Nat} {I : IT} {X : XT} {K : Int32 → IT → XT → Prop} {l1 : Int32} {l2 : Int32} 
    (H : vp_in l1 6 ∧
      (¬ l2 = (I 131 l1.toNatClampNeg) →
        ∀ x2 : Int32, x2 = 1 + l2 →
        SR g (d + 1) iX11_smokes 22 [(0, rf g 129), (1, .int l1), (2, .int l2), (3, .int x2), (4, .int 0), (5, .int 0)] I X (qI K)) ∧
      (l2 = (I 131 l1.toNatClampNeg) →
        K 1 I X)) : CI g (d + 1) iX11_smokes [rf g 129, .int l1, .int l2] I X K := by
  refine ocall_of (by decide) (Nat.le_of_ble_eq_true rfl) ?_
  show SR g (d + 1) iX11_smokes 0 [(0, rf g 129), (1, .int l1), (2, .int l2)] I X (qI K)
  refine r_iload_n (n := 1) 2 dX11_smokes_0 rfl rfl ?_
  refine r_aload_n (n := 2) 0 dX11_smokes_1 rfl rfl ?_
  refine r_getR (n := 5) cls_10 5 fi_10_5 so_129 gw_1031 dX11_smokes_2 rfl sr_129_5 (by decide) ?_
  refine r_iload_n (n := 6) 1 dX11_smokes_5 rfl rfl ?_
  obtain ⟨hi1, H⟩ := H
  refine rs_iald (n := 7) sa_131 hi1 dX11_smokes_6 rfl ?_
  refine r_icmp_ne (n := 10) (tgt := 12) dX11_smokes_7 (by decide) rfl (fun c => ?_) (fun c => ?_)
  · have H := H.1 c
    refine r_iconst (n := 13) (v := 1) dX11_smokes_12 ki_1 rfl ?_
    refine r_iload_n (n := 14) 2 dX11_smokes_13 rfl rfl ?_
    refine r_iadd (n := 15) dX11_smokes_14 rfl ?_
    have H := H _ rfl
    refine r_istore_n (n := 16) (lv' := [(3, .int _), (0, .ref _), (1, .int _), (2, .int _)]) dX11_smokes_15 rfl (by decide) rfl rfl ?_
    refine r_iconst (n := 17) (v := 0) dX11_smokes_16 ki_0 rfl ?_
    refine r_istore (n := 19) (lv' := [(4, .int _), (3, .int _), (0, .ref _), (1, .int _), (2, .int _)]) dX11_smokes_17 (by decide) rfl rfl ?_
    refine r_iconst (n := 20) (v := 0) dX11_smokes_19 ki_0 rfl ?_
    refine r_istore (n := 22) (lv' := [(5, .int _), (4, .int _), (3, .int _), (0, .ref _), (1, .int _), (2, .int _)]) dX11_smokes_20 (by decide) rfl rfl ?_
    exact r_sub [3, 4, 5, 2, 1, 0] rfl H
  · have H := H.2 c
    refine r_iconst (n := 11) (v := 1) dX11_smokes_10 ki_1 rfl ?_
    exact rs_iret dX11_smokes_11 rfl H
set_option maxRecDepth 20000 in
theorem rg_X11_smokes_22 {g : OG} {d : Nat} {I : IT} {X : XT} {K : Int32 → IT → XT → Prop} {l1 : Int32} {l2 : Int32} {l3 : Int32} {l4 : Int32} {l5 : Int32} 
    (H : (36 < l5 →
        K l4 I X) ∧
      (¬ 36 < l5 →
        CI g d iX11_canMove [rf g 129, .int l3, .int l5] I X (fun r1 I2 X3 =>
          (r1 = 0 →
            ∀ x4 : Int32, x4 = l5 + 1 →
            SR g (d + 1) iX11_smokes 22 [(0, rf g 129), (1, .int l1), (2, .int l2), (3, .int l3), (4, .int l4), (5, .int x4)] I2 X3 (qI K)) ∧
          (¬ r1 = 0 →
            CV g d iX11_copyTo [rf g 129, .int l3, .int (l3 + 1)] I2 X3 (fun I5 X6 =>
              CI g d iX11_isNone [.int l5] I5 X6 (fun r7 I8 X9 =>
                (¬ r7 = 0 →
                  CV g d iX11_passes [rf g 129, .int (l3 + 1)] I8 X9 (fun I10 X11 =>
                    CI g d iX11_burning [rf g 129, .int (l3 + 1)] I10 X11 (fun r12 I13 X14 =>
                      CI g d iX11_rowAt [rf g 129, .int l1, .int l2] I13 X14 (fun r15 I16 X17 =>
                        (¬ r12 = r15 →
                          ∀ x18 : Int32, x18 = l4 + 0 →
                          ∀ x19 : Int32, x19 = l5 + 1 →
                          SR g (d + 1) iX11_smokes 22 [(0, rf g 129), (1, .int l1), (2, .int l2), (3, .int l3), (4, .int x18), (5, .int x19)] I16 X17 (qI K)) ∧
                        (r12 = r15 →
                          CI g d iX11_smokes [rf g 129, .int l1, .int (l2 + 1)] I16 X17 (fun r20 I21 X22 =>
                            ∀ x23 : Int32, x23 = l4 + r20 →
                            ∀ x24 : Int32, x24 = l5 + 1 →
                            SR g (d + 1) iX11_smokes 22 [(0, rf g 129), (1, .int l1), (2, .int l2), (3, .int l3), (4, .int x23), (5, .int x24)] I21 X22 (qI K))))))) ∧
                (r7 = 0 →
                  CV g d iX11_carries [rf g 129, .int (l3 + 1), .int (l5 - l5 / 6 * 6)] I8 X9 (fun I25 X26 =>
                    CV g d iX11_passes [rf g 129, .int (l3 + 1)] I25 X26 (fun I27 X28 =>
                      CI g d iX11_burning [rf g 129, .int (l3 + 1)] I27 X28 (fun r29 I30 X31 =>
                        CI g d iX11_rowAt [rf g 129, .int l1, .int l2] I30 X31 (fun r32 I33 X34 =>
                          (¬ r29 = r32 →
                            ∀ x35 : Int32, x35 = l4 + 0 →
                            ∀ x36 : Int32, x36 = l5 + 1 →
                            SR g (d + 1) iX11_smokes 22 [(0, rf g 129), (1, .int l1), (2, .int l2), (3, .int l3), (4, .int x35), (5, .int x36)] I33 X34 (qI K)) ∧
                          (r29 = r32 →
                            CI g d iX11_smokes [rf g 129, .int l1, .int (l2 + 1)] I33 X34 (fun r37 I38 X39 =>
                              ∀ x40 : Int32, x40 = l4 + r37 →
                              ∀ x41 : Int32, x41 = l5 + 1 →
                              SR g (d + 1) iX11_smokes 22 [(0, rf g 129), (1, .int l1), (2, .int l2), (3, .int l3), (4, .int x40), (5, .int x41)] I38 X39 (qI K)))))))))))))) : SR g (d + 1) iX11_smokes 22 [(0, rf g 129), (1, .int l1), (2, .int l2), (3, .int l3), (4, .int l4), (5, .int l5)] I X (qI K) := by
  refine r_iload (n := 24) 5 dX11_smokes_22 rfl rfl ?_
  refine r_bipush (n := 26) (v := 36) dX11_smokes_24 kb_36 rfl ?_
  refine r_icmp_gt (n := 29) (tgt := 113) dX11_smokes_26 (by decide) rfl (fun c => ?_) (fun c => ?_)
  · have H := H.1 c
    refine r_iload (n := 115) 4 dX11_smokes_113 rfl rfl ?_
    exact rs_iret dX11_smokes_115 rfl H
  · have H := H.2 c
    refine r_aload_n (n := 30) 0 dX11_smokes_29 rfl rfl ?_
    refine r_iload_n (n := 31) 3 dX11_smokes_30 rfl rfl ?_
    refine r_iload (n := 33) 5 dX11_smokes_31 rfl rfl ?_
    refine rs_cVi (n := 36) (rest := []) (As := [.int _, .int _]) vm_X11_canMove gw_1411 so_129 cq_10 dX11_smokes_33 rfl rfl (Nat.le_of_ble_eq_true rfl) rfl (CI.mono H (fun r1 I2 X3 H => ?_))
    refine r_if_eq (n := 39) (tgt := 107) dX11_smokes_36 (by decide) rfl (fun c => ?_) (fun c => ?_)
    · have H := H.1 c
      have H := H _ rfl
      refine r_iinc (n := 110) (lv' := [(5, .int _), (0, .ref _), (1, .int _), (2, .int _), (3, .int _), (4, .int _)]) 5 dX11_smokes_107 rfl rfl (by decide) rfl rfl ?_
      refine r_goto (n := 22) dX11_smokes_110 (by decide) ?_
      exact r_sub [1, 2, 3, 4, 5, 0] rfl H
    · have H := H.2 c
      refine r_aload_n (n := 40) 0 dX11_smokes_39 rfl rfl ?_
      refine r_iload_n (n := 41) 3 dX11_smokes_40 rfl rfl ?_
      refine r_iload_n (n := 42) 3 dX11_smokes_41 rfl rfl ?_
      refine r_iconst (n := 43) (v := 1) dX11_smokes_42 ki_1 rfl ?_
      refine r_iadd (n := 44) dX11_smokes_43 rfl ?_
      refine rs_cVv (n := 47) (rest := []) (As := [.int _, .int _]) vm_X11_copyTo gw_1367 so_129 cq_10 dX11_smokes_44 rfl rfl (Nat.le_of_ble_eq_true rfl) rfl (CV.mono H (fun I5 X6 H => ?_))
      refine r_iload (n := 49) 5 dX11_smokes_47 rfl rfl ?_
      refine rs_cSi (n := 52) (rest := []) (As := [.int _]) sm_X11_isNone gw_1415 dX11_smokes_49 rfl rfl (Nat.le_of_ble_eq_true rfl) rfl (CI.mono H (fun r7 I8 X9 H => ?_))
      refine r_if_ne (n := 55) (tgt := 67) dX11_smokes_52 (by decide) rfl (fun c => ?_) (fun c => ?_)
      · have H := H.1 c
        refine r_aload_n (n := 68) 0 dX11_smokes_67 rfl rfl ?_
        refine r_iload_n (n := 69) 3 dX11_smokes_68 rfl rfl ?_
        refine r_iconst (n := 70) (v := 1) dX11_smokes_69 ki_1 rfl ?_
        refine r_iadd (n := 71) dX11_smokes_70 rfl ?_
        refine rs_cVv (n := 74) (rest := []) (As := [.int _]) vm_X11_passes gw_1332 so_129 cq_10 dX11_smokes_71 rfl rfl (Nat.le_of_ble_eq_true rfl) rfl (CV.mono H (fun I10 X11 H => ?_))
        refine r_iload (n := 76) 4 dX11_smokes_74 rfl rfl ?_
        refine r_aload_n (n := 77) 0 dX11_smokes_76 rfl rfl ?_
        refine r_iload_n (n := 78) 3 dX11_smokes_77 rfl rfl ?_
        refine r_iconst (n := 79) (v := 1) dX11_smokes_78 ki_1 rfl ?_
        refine r_iadd (n := 80) dX11_smokes_79 rfl ?_
        refine rs_cVi (n := 83) (rest := [.int _]) (As := [.int _]) vm_X11_burning gw_1321 so_129 cq_10 dX11_smokes_80 rfl rfl (Nat.le_of_ble_eq_true rfl) rfl (CI.mono H (fun r12 I13 X14 H => ?_))
        refine r_aload_n (n := 84) 0 dX11_smokes_83 rfl rfl ?_
        refine r_iload_n (n := 85) 1 dX11_smokes_84 rfl rfl ?_
        refine r_iload_n (n := 86) 2 dX11_smokes_85 rfl rfl ?_
        refine rs_cVi (n := 89) (rest := [.int _, .int _]) (As := [.int _, .int _]) vm_X11_rowAt gw_1180 so_129 cq_10 dX11_smokes_86 rfl rfl (Nat.le_of_ble_eq_true rfl) rfl (CI.mono H (fun r15 I16 X17 H => ?_))
        refine r_icmp_ne (n := 92) (tgt := 103) dX11_smokes_89 (by decide) rfl (fun c => ?_) (fun c => ?_)
        · have H := H.1 c
          refine r_iconst (n := 104) (v := 0) dX11_smokes_103 ki_0 rfl ?_
          refine r_iadd (n := 105) dX11_smokes_104 rfl ?_
          have H := H _ rfl
          refine r_istore (n := 107) (lv' := [(4, .int _), (0, .ref _), (1, .int _), (2, .int _), (3, .int _), (5, .int _)]) dX11_smokes_105 (by decide) rfl rfl ?_
          have H := H _ rfl
          refine r_iinc (n := 110) (lv' := [(5, .int _), (4, .int _), (0, .ref _), (1, .int _), (2, .int _), (3, .int _)]) 5 dX11_smokes_107 rfl rfl (by decide) rfl rfl ?_
          refine r_goto (n := 22) dX11_smokes_110 (by decide) ?_
          exact r_sub [2, 3, 4, 5, 1, 0] rfl H
        · have H := H.2 c
          refine r_aload_n (n := 93) 0 dX11_smokes_92 rfl rfl ?_
          refine r_iload_n (n := 94) 1 dX11_smokes_93 rfl rfl ?_
          refine r_iload_n (n := 95) 2 dX11_smokes_94 rfl rfl ?_
          refine r_iconst (n := 96) (v := 1) dX11_smokes_95 ki_1 rfl ?_
          refine r_iadd (n := 97) dX11_smokes_96 rfl ?_
          refine rs_cVi (n := 100) (rest := [.int _]) (As := [.int _, .int _]) vm_X11_smokes gw_1470 so_129 cq_10 dX11_smokes_97 rfl rfl (Nat.le_of_ble_eq_true rfl) rfl (CI.mono H (fun r20 I21 X22 H => ?_))
          refine r_goto (n := 104) dX11_smokes_100 (by decide) ?_
          refine r_iadd (n := 105) dX11_smokes_104 rfl ?_
          have H := H _ rfl
          refine r_istore (n := 107) (lv' := [(4, .int _), (0, .ref _), (1, .int _), (2, .int _), (3, .int _), (5, .int _)]) dX11_smokes_105 (by decide) rfl rfl ?_
          have H := H _ rfl
          refine r_iinc (n := 110) (lv' := [(5, .int _), (4, .int _), (0, .ref _), (1, .int _), (2, .int _), (3, .int _)]) 5 dX11_smokes_107 rfl rfl (by decide) rfl rfl ?_
          refine r_goto (n := 22) dX11_smokes_110 (by decide) ?_
          exact r_sub [2, 3, 4, 5, 1, 0] rfl H
      · have H := H.2 c
        refine r_aload_n (n := 56) 0 dX11_smokes_55 rfl rfl ?_
        refine r_iload_n (n := 57) 3 dX11_smokes_56 rfl rfl ?_
        refine r_iconst (n := 58) (v := 1) dX11_smokes_57 ki_1 rfl ?_
        refine r_iadd (n := 59) dX11_smokes_58 rfl ?_
        refine r_iload (n := 61) 5 dX11_smokes_59 rfl rfl ?_
        refine r_bipush (n := 63) (v := 6) dX11_smokes_61 kb_6 rfl ?_
        refine r_irem (n := 64) dX11_smokes_63 (by decide) rfl ?_
        refine rs_cVv (n := 67) (rest := []) (As := [.int _, .int _]) vm_X11_carries gw_1317 so_129 cq_10 dX11_smokes_64 rfl rfl (Nat.le_of_ble_eq_true rfl) rfl (CV.mono H (fun I25 X26 H => ?_))
        refine r_aload_n (n := 68) 0 dX11_smokes_67 rfl rfl ?_
        refine r_iload_n (n := 69) 3 dX11_smokes_68 rfl rfl ?_
        refine r_iconst (n := 70) (v := 1) dX11_smokes_69 ki_1 rfl ?_
        refine r_iadd (n := 71) dX11_smokes_70 rfl ?_
        refine rs_cVv (n := 74) (rest := []) (As := [.int _]) vm_X11_passes gw_1332 so_129 cq_10 dX11_smokes_71 rfl rfl (Nat.le_of_ble_eq_true rfl) rfl (CV.mono H (fun I27 X28 H => ?_))
        refine r_iload (n := 76) 4 dX11_smokes_74 rfl rfl ?_
        refine r_aload_n (n := 77) 0 dX11_smokes_76 rfl rfl ?_
        refine r_iload_n (n := 78) 3 dX11_smokes_77 rfl rfl ?_
        refine r_iconst (n := 79) (v := 1) dX11_smokes_78 ki_1 rfl ?_
        refine r_iadd (n := 80) dX11_smokes_79 rfl ?_
        refine rs_cVi (n := 83) (rest := [.int _]) (As := [.int _]) vm_X11_burning gw_1321 so_129 cq_10 dX11_smokes_80 rfl rfl (Nat.le_of_ble_eq_true rfl) rfl (CI.mono H (fun r29 I30 X31 H => ?_))
        refine r_aload_n (n := 84) 0 dX11_smokes_83 rfl rfl ?_
        refine r_iload_n (n := 85) 1 dX11_smokes_84 rfl rfl ?_
        refine r_iload_n (n := 86) 2 dX11_smokes_85 rfl rfl ?_
        refine rs_cVi (n := 89) (rest := [.int _, .int _]) (As := [.int _, .int _]) vm_X11_rowAt gw_1180 so_129 cq_10 dX11_smokes_86 rfl rfl (Nat.le_of_ble_eq_true rfl) rfl (CI.mono H (fun r32 I33 X34 H => ?_))
        refine r_icmp_ne (n := 92) (tgt := 103) dX11_smokes_89 (by decide) rfl (fun c => ?_) (fun c => ?_)
        · have H := H.1 c
          refine r_iconst (n := 104) (v := 0) dX11_smokes_103 ki_0 rfl ?_
          refine r_iadd (n := 105) dX11_smokes_104 rfl ?_
          have H := H _ rfl
          refine r_istore (n := 107) (lv' := [(4, .int _), (0, .ref _), (1, .int _), (2, .int _), (3, .int _), (5, .int _)]) dX11_smokes_105 (by decide) rfl rfl ?_
          have H := H _ rfl
          refine r_iinc (n := 110) (lv' := [(5, .int _), (4, .int _), (0, .ref _), (1, .int _), (2, .int _), (3, .int _)]) 5 dX11_smokes_107 rfl rfl (by decide) rfl rfl ?_
          refine r_goto (n := 22) dX11_smokes_110 (by decide) ?_
          exact r_sub [2, 3, 4, 5, 1, 0] rfl H
        · have H := H.2 c
          refine r_aload_n (n := 93) 0 dX11_smokes_92 rfl rfl ?_
          refine r_iload_n (n := 94) 1 dX11_smokes_93 rfl rfl ?_
          refine r_iload_n (n := 95) 2 dX11_smokes_94 rfl rfl ?_
          refine r_iconst (n := 96) (v := 1) dX11_smokes_95 ki_1 rfl ?_
          refine r_iadd (n := 97) dX11_smokes_96 rfl ?_
          refine rs_cVi (n := 100) (rest := [.int _]) (As := [.int _, .int _]) vm_X11_smokes gw_1470 so_129 cq_10 dX11_smokes_97 rfl rfl (Nat.le_of_ble_eq_true rfl) rfl (CI.mono H (fun r37 I38 X39 H => ?_))
          refine r_goto (n := 104) dX11_smokes_100 (by decide) ?_
          refine r_iadd (n := 105) dX11_smokes_104 rfl ?_
          have H := H _ rfl
          refine r_istore (n := 107) (lv' := [(4, .int _), (0, .ref _), (1, .int _), (2, .int _), (3, .int _), (5, .int _)]) dX11_smokes_105 (by decide) rfl rfl ?_
          have H := H _ rfl
          refine r_iinc (n := 110) (lv' := [(5, .int _), (4, .int _), (0, .ref _), (1, .int _), (2, .int _), (3, .int _)]) 5 dX11_smokes_107 rfl rfl (by decide) rfl rfl ?_
          refine r_goto (n := 22) dX11_smokes_110 (by decide) ?_
          exact r_sub [2, 3, 4, 5, 1, 0] rfl H
set_option maxRecDepth 20000 in
theorem en_X11_smoke {g : OG} {d : Nat} {I : IT} {X : XT} {K : Int32 → IT → XT → Prop} {l1 : Int32} 
    (H : CI g d iX11_needBook [rf g 129, .int l1, .int 1] I X (fun r1 I2 X3 =>
        (0 ≤ r1 →
          SR g (d + 1) iX11_smoke 21 [(0, rf g 129), (1, .int l1), (3, .int 0), (4, .int 0), (5, .int 0)] I2 X3 (qI K)) ∧
        (¬ 0 ≤ r1 →
          K r1 I2 X3))) : CI g (d + 1) iX11_smoke [rf g 129, .int l1] I X K := by
  refine ocall_of (by decide) (Nat.le_of_ble_eq_true rfl) ?_
  show SR g (d + 1) iX11_smoke 0 [(0, rf g 129), (1, .int l1)] I X (qI K)
  refine r_aload_n (n := 1) 0 dX11_smoke_0 rfl rfl ?_
  refine r_iload_n (n := 2) 1 dX11_smoke_1 rfl rfl ?_
  refine r_iconst (n := 3) (v := 1) dX11_smoke_2 ki_1 rfl ?_
  refine rs_cVi (n := 6) (rest := []) (As := [.int _, .int _]) vm_X11_needBook gw_1466 so_129 cq_10 dX11_smoke_3 rfl rfl (Nat.le_of_ble_eq_true rfl) rfl (CI.mono H (fun r1 I2 X3 H => ?_))
  refine r_istore_n (n := 7) (lv' := [(2, .int _), (0, .ref _), (1, .int _)]) dX11_smoke_6 rfl (by decide) rfl rfl ?_
  refine r_iload_n (n := 8) 0 dX11_smoke_7 rfl rfl ?_
  refine r_if_ge (n := 11) (tgt := 13) dX11_smoke_8 (by decide) rfl (fun c => ?_) (fun c => ?_)
  · have H := H.1 c
    refine r_iconst (n := 14) (v := 0) dX11_smoke_13 ki_0 rfl ?_
    refine r_istore_n (n := 15) (lv' := [(3, .int _), (2, .int _), (0, .ref _), (1, .int _)]) dX11_smoke_14 rfl (by decide) rfl rfl ?_
    refine r_iconst (n := 16) (v := 0) dX11_smoke_15 ki_0 rfl ?_
    refine r_istore (n := 18) (lv' := [(4, .int _), (3, .int _), (2, .int _), (0, .ref _), (1, .int _)]) dX11_smoke_16 (by decide) rfl rfl ?_
    refine r_iconst (n := 19) (v := 0) dX11_smoke_18 ki_0 rfl ?_
    refine r_istore (n := 21) (lv' := [(5, .int _), (4, .int _), (3, .int _), (2, .int _), (0, .ref _), (1, .int _)]) dX11_smoke_19 (by decide) rfl rfl ?_
    exact r_sub [4, 5, 2, 1, 0] rfl H
  · have H := H.2 c
    refine r_iload_n (n := 12) 0 dX11_smoke_11 rfl rfl ?_
    exact rs_iret dX11_smoke_12 rfl H
set_option maxRecDepth 20000 in
theorem rg_X11_smoke_21 {g : OG} {d : Nat} {I : IT} {X : XT} {K : Int32 → IT → XT → Prop} {l1 : Int32} {l3 : Int32} {l4 : Int32} {l5 : Int32} 
    (H : ((I 129 10) ≤ l5 →
        CI g d iX11_fraction [rf g 129, .long l3.toInt64, .long 1] I X (fun r1 I2 X3 =>
          CI g d iX11_tells [rf g 129, .int l4, .int 1] I2 X3 (fun r4 I5 X6 =>
            K r4 I5 X6))) ∧
      (¬ (I 129 10) ≤ l5 →
        CV g d iX11_layFirst [rf g 129, .int 1] I X (fun I7 X8 =>
          CI g d iX11_isCatching [rf g 129, .int 1, .int l5] I7 X8 (fun r9 I10 X11 =>
            (r9 = 0 →
              ∀ x12 : Int32, x12 = l5 + 1 →
              SR g (d + 1) iX11_smoke 21 [(0, rf g 129), (1, .int l1), (3, .int l3), (4, .int l4), (5, .int x12)] I10 X11 (qI K)) ∧
            (¬ r9 = 0 →
              vp_in (28 + l5) 216 ∧
              ∀ I14 : IT, I14 = set2 I10 142 (28 + l5).toNatClampNeg 1 →
              CI g d iX11_smokes [rf g 129, .int l1, .int 0] I14 X11 (fun r15 I16 X17 =>
                ∀ x18 : Int32, x18 = l3 + r15 →
                (r15 ≤ 0 →
                  ∀ x19 : Int32, x19 = l4 ||| 0 →
                  ∀ x20 : Int32, x20 = l5 + 1 →
                  SR g (d + 1) iX11_smoke 21 [(0, rf g 129), (1, .int l1), (3, .int x18), (4, .int x19), (5, .int x20)] I16 X17 (qI K)) ∧
                (¬ r15 ≤ 0 →
                  ∀ x21 : Int32, x21 = l4 ||| (1 <<< (l5 &&& 31)) →
                  ∀ x22 : Int32, x22 = l5 + 1 →
                  SR g (d + 1) iX11_smoke 21 [(0, rf g 129), (1, .int l1), (3, .int x18), (4, .int x21), (5, .int x22)] I16 X17 (qI K)))))))) : SR g (d + 1) iX11_smoke 21 [(0, rf g 129), (1, .int l1), (3, .int l3), (4, .int l4), (5, .int l5)] I X (qI K) := by
  refine r_iload (n := 23) 4 dX11_smoke_21 rfl rfl ?_
  refine r_aload_n (n := 24) 0 dX11_smoke_23 rfl rfl ?_
  refine rs_getI (n := 27) cls_10 10 fi_10_10 so_129 gw_1036 dX11_smoke_24 rfl ?_
  refine r_icmp_ge (n := 30) (tgt := 93) dX11_smoke_27 (by decide) rfl (fun c => ?_) (fun c => ?_)
  · have H := H.1 c
    refine r_aload_n (n := 94) 0 dX11_smoke_93 rfl rfl ?_
    refine r_iload_n (n := 95) 2 dX11_smoke_94 rfl rfl ?_
    refine r_i2l (n := 96) dX11_smoke_95 rfl ?_
    refine r_lconst (n := 97) (v := 1) dX11_smoke_96 (by decide) rfl ?_
    refine rs_cVi (n := 100) (rest := []) (As := [.long _, .long _]) vm_X11_fraction gw_1434 so_129 cq_10 dX11_smoke_97 rfl rfl (Nat.le_of_ble_eq_true rfl) rfl (CI.mono H (fun r1 I2 X3 H => ?_))
    refine r_pop (n := 101) dX11_smoke_100 rfl rfl ?_
    refine r_aload_n (n := 102) 0 dX11_smoke_101 rfl rfl ?_
    refine r_iload (n := 104) 3 dX11_smoke_102 rfl rfl ?_
    refine r_iconst (n := 105) (v := 1) dX11_smoke_104 ki_1 rfl ?_
    refine rs_cVi (n := 108) (rest := []) (As := [.int _, .int _]) vm_X11_tells gw_1184 so_129 cq_10 dX11_smoke_105 rfl rfl (Nat.le_of_ble_eq_true rfl) rfl (CI.mono H (fun r4 I5 X6 H => ?_))
    exact rs_iret dX11_smoke_108 rfl H
  · have H := H.2 c
    refine r_aload_n (n := 31) 0 dX11_smoke_30 rfl rfl ?_
    refine r_iconst (n := 32) (v := 1) dX11_smoke_31 ki_1 rfl ?_
    refine rs_cVv (n := 35) (rest := []) (As := [.int _]) vm_X11_layFirst gw_1458 so_129 cq_10 dX11_smoke_32 rfl rfl (Nat.le_of_ble_eq_true rfl) rfl (CV.mono H (fun I7 X8 H => ?_))
    refine r_aload_n (n := 36) 0 dX11_smoke_35 rfl rfl ?_
    refine r_iconst (n := 37) (v := 1) dX11_smoke_36 ki_1 rfl ?_
    refine r_iload (n := 39) 4 dX11_smoke_37 rfl rfl ?_
    refine rs_cVi (n := 42) (rest := []) (As := [.int _, .int _]) vm_X11_isCatching gw_1258 so_129 cq_10 dX11_smoke_39 rfl rfl (Nat.le_of_ble_eq_true rfl) rfl (CI.mono H (fun r9 I10 X11 H => ?_))
    refine r_if_eq (n := 45) (tgt := 87) dX11_smoke_42 (by decide) rfl (fun c => ?_) (fun c => ?_)
    · have H := H.1 c
      have H := H _ rfl
      refine r_iinc (n := 90) (lv' := [(5, .int _), (0, .ref _), (1, .int _), (3, .int _), (4, .int _)]) 4 dX11_smoke_87 rfl rfl (by decide) rfl rfl ?_
      refine r_goto (n := 21) dX11_smoke_90 (by decide) ?_
      exact r_sub [1, 2, 3, 4, 0] rfl H
    · have H := H.2 c
      refine r_aload_n (n := 46) 0 dX11_smoke_45 rfl rfl ?_
      refine r_getR (n := 49) cls_10 21 fi_10_21 so_129 gw_1047 dX11_smoke_46 rfl sr_129_21 (by decide) ?_
      refine r_bipush (n := 51) (v := 28) dX11_smoke_49 kb_28 rfl ?_
      refine r_iload (n := 53) 4 dX11_smoke_51 rfl rfl ?_
      refine r_iadd (n := 54) dX11_smoke_53 rfl ?_
      refine r_iconst (n := 55) (v := 1) dX11_smoke_54 ki_1 rfl ?_
      obtain ⟨hi13, H⟩ := H
      have H := H _ rfl
      refine rs_iast (n := 56) sa_142 hi13 dX11_smoke_55 rfl ?_
      refine r_aload_n (n := 57) 0 dX11_smoke_56 rfl rfl ?_
      refine r_iload_n (n := 58) 1 dX11_smoke_57 rfl rfl ?_
      refine r_iconst (n := 59) (v := 0) dX11_smoke_58 ki_0 rfl ?_
      refine rs_cVi (n := 62) (rest := []) (As := [.int _, .int _]) vm_X11_smokes gw_1470 so_129 cq_10 dX11_smoke_59 rfl rfl (Nat.le_of_ble_eq_true rfl) rfl (CI.mono H (fun r15 I16 X17 H => ?_))
      refine r_istore (n := 64) (lv' := [(6, .int _), (0, .ref _), (1, .int _), (3, .int _), (4, .int _), (5, .int _)]) dX11_smoke_62 (by decide) rfl rfl ?_
      refine r_iload_n (n := 65) 3 dX11_smoke_64 rfl rfl ?_
      refine r_iload (n := 67) 0 dX11_smoke_65 rfl rfl ?_
      refine r_iadd (n := 68) dX11_smoke_67 rfl ?_
      have H := H _ rfl
      refine r_istore_n (n := 69) (lv' := [(3, .int _), (6, .int _), (0, .ref _), (1, .int _), (4, .int _), (5, .int _)]) dX11_smoke_68 rfl (by decide) rfl rfl ?_
      refine r_iload (n := 71) 4 dX11_smoke_69 rfl rfl ?_
      refine r_iload (n := 73) 1 dX11_smoke_71 rfl rfl ?_
      refine r_if_le (n := 76) (tgt := 83) dX11_smoke_73 (by decide) rfl (fun c => ?_) (fun c => ?_)
      · have H := H.1 c
        refine r_iconst (n := 84) (v := 0) dX11_smoke_83 ki_0 rfl ?_
        refine r_ior (n := 85) dX11_smoke_84 rfl ?_
        have H := H _ rfl
        refine r_istore (n := 87) (lv' := [(4, .int _), (3, .int _), (6, .int _), (0, .ref _), (1, .int _), (5, .int _)]) dX11_smoke_85 (by decide) rfl rfl ?_
        have H := H _ rfl
        refine r_iinc (n := 90) (lv' := [(5, .int _), (4, .int _), (3, .int _), (6, .int _), (0, .ref _), (1, .int _)]) 5 dX11_smoke_87 rfl rfl (by decide) rfl rfl ?_
        refine r_goto (n := 21) dX11_smoke_90 (by decide) ?_
        exact r_sub [4, 5, 2, 1, 0] rfl H
      · have H := H.2 c
        refine r_iconst (n := 77) (v := 1) dX11_smoke_76 ki_1 rfl ?_
        refine r_iload (n := 79) 5 dX11_smoke_77 rfl rfl ?_
        refine r_ishl (n := 80) dX11_smoke_79 rfl ?_
        refine r_goto (n := 84) dX11_smoke_80 (by decide) ?_
        refine r_ior (n := 85) dX11_smoke_84 rfl ?_
        have H := H _ rfl
        refine r_istore (n := 87) (lv' := [(4, .int _), (3, .int _), (6, .int _), (0, .ref _), (1, .int _), (5, .int _)]) dX11_smoke_85 (by decide) rfl rfl ?_
        have H := H _ rfl
        refine r_iinc (n := 90) (lv' := [(5, .int _), (4, .int _), (3, .int _), (6, .int _), (0, .ref _), (1, .int _)]) 5 dX11_smoke_87 rfl rfl (by decide) rfl rfl ?_
        refine r_goto (n := 21) dX11_smoke_90 (by decide) ?_
        exact r_sub [4, 5, 2, 1, 0] rfl H
set_option maxRecDepth 20000 in
theorem en_X11_hides {g : OG} {d : Nat} {I : IT} {X : XT} {K : Int32 → IT → XT → Prop} {l1 : Int32} {l2 : Int32} 
    (H : CI g d iX11_everybody [rf g 129] I X (fun r1 I2 X3 =>
        CI g d iX11_in [.int l2, .int 0, .int r1] I2 X3 (fun r4 I5 X6 =>
          CI g d iX11_needBook [rf g 129, .int l1, .int r4] I5 X6 (fun r7 I8 X9 =>
            (0 ≤ r7 →
              SR g (d + 1) iX11_hides 27 [(0, rf g 129), (1, .int l1), (2, .int l2), (4, .int 0), (5, .int 0)] I8 X9 (qI K)) ∧
            (¬ 0 ≤ r7 →
              K r7 I8 X9))))) : CI g (d + 1) iX11_hides [rf g 129, .int l1, .int l2] I X K := by
  refine ocall_of (by decide) (Nat.le_of_ble_eq_true rfl) ?_
  show SR g (d + 1) iX11_hides 0 [(0, rf g 129), (1, .int l1), (2, .int l2)] I X (qI K)
  refine r_aload_n (n := 1) 0 dX11_hides_0 rfl rfl ?_
  refine r_iload_n (n := 2) 1 dX11_hides_1 rfl rfl ?_
  refine r_iload_n (n := 3) 2 dX11_hides_2 rfl rfl ?_
  refine r_iconst (n := 4) (v := 0) dX11_hides_3 ki_0 rfl ?_
  refine r_aload_n (n := 5) 0 dX11_hides_4 rfl rfl ?_
  refine rs_cVi (n := 8) (rest := [.int _, .int _, .int _, .ref _]) (As := []) vm_X11_everybody gw_1379 so_129 cq_10 dX11_hides_5 rfl rfl (Nat.le_of_ble_eq_true rfl) rfl (CI.mono H (fun r1 I2 X3 H => ?_))
  refine rs_cSi (n := 11) (rest := [.int _, .ref _]) (As := [.int _, .int _, .int _]) sm_X11_in gw_1150 dX11_hides_8 rfl rfl (Nat.le_of_ble_eq_true rfl) rfl (CI.mono H (fun r4 I5 X6 H => ?_))
  refine rs_cVi (n := 14) (rest := []) (As := [.int _, .int _]) vm_X11_needBook gw_1466 so_129 cq_10 dX11_hides_11 rfl rfl (Nat.le_of_ble_eq_true rfl) rfl (CI.mono H (fun r7 I8 X9 H => ?_))
  refine r_istore_n (n := 15) (lv' := [(3, .int _), (0, .ref _), (1, .int _), (2, .int _)]) dX11_hides_14 rfl (by decide) rfl rfl ?_
  refine r_iload_n (n := 16) 0 dX11_hides_15 rfl rfl ?_
  refine r_if_ge (n := 19) (tgt := 21) dX11_hides_16 (by decide) rfl (fun c => ?_) (fun c => ?_)
  · have H := H.1 c
    refine r_iconst (n := 22) (v := 0) dX11_hides_21 ki_0 rfl ?_
    refine r_istore (n := 24) (lv' := [(4, .int _), (3, .int _), (0, .ref _), (1, .int _), (2, .int _)]) dX11_hides_22 (by decide) rfl rfl ?_
    refine r_iconst (n := 25) (v := 0) dX11_hides_24 ki_0 rfl ?_
    refine r_istore (n := 27) (lv' := [(5, .int _), (4, .int _), (3, .int _), (0, .ref _), (1, .int _), (2, .int _)]) dX11_hides_25 (by decide) rfl rfl ?_
    exact r_sub [3, 4, 5, 1, 0] rfl H
  · have H := H.2 c
    refine r_iload_n (n := 20) 0 dX11_hides_19 rfl rfl ?_
    exact rs_iret dX11_hides_20 rfl H
set_option maxRecDepth 20000 in
theorem rg_X11_hides_27 {g : OG} {d : Nat} {I : IT} {X : XT} {K : Int32 → IT → XT → Prop} {l1 : Int32} {l2 : Int32} {l4 : Int32} {l5 : Int32} 
    (H : vp_in l1 6 ∧
      ((I 131 l1.toNatClampNeg) ≤ l5 →
        SR g (d + 1) iX11_hides 59 [(0, rf g 129), (2, .int l2), (4, .int l4), (5, .int 0)] I X (qI K)) ∧
      (¬ (I 131 l1.toNatClampNeg) ≤ l5 →
        CI g d iX11_rowAt [rf g 129, .int l1, .int l5] I X (fun r2 I3 X4 =>
          ∀ x5 : Int32, x5 = l4 ||| r2 →
          ∀ x6 : Int32, x6 = l5 + 1 →
          SR g (d + 1) iX11_hides 27 [(0, rf g 129), (1, .int l1), (2, .int l2), (4, .int x5), (5, .int x6)] I3 X4 (qI K)))) : SR g (d + 1) iX11_hides 27 [(0, rf g 129), (1, .int l1), (2, .int l2), (4, .int l4), (5, .int l5)] I X (qI K) := by
  refine r_iload (n := 29) 4 dX11_hides_27 rfl rfl ?_
  refine r_aload_n (n := 30) 0 dX11_hides_29 rfl rfl ?_
  refine r_getR (n := 33) cls_10 5 fi_10_5 so_129 gw_1031 dX11_hides_30 rfl sr_129_5 (by decide) ?_
  refine r_iload_n (n := 34) 1 dX11_hides_33 rfl rfl ?_
  obtain ⟨hi1, H⟩ := H
  refine rs_iald (n := 35) sa_131 hi1 dX11_hides_34 rfl ?_
  refine r_icmp_ge (n := 38) (tgt := 56) dX11_hides_35 (by decide) rfl (fun c => ?_) (fun c => ?_)
  · have H := H.1 c
    refine r_iconst (n := 57) (v := 0) dX11_hides_56 ki_0 rfl ?_
    refine r_istore (n := 59) (lv' := [(5, .int _), (0, .ref _), (1, .int _), (2, .int _), (4, .int _)]) dX11_hides_57 (by decide) rfl rfl ?_
    exact r_sub [1, 3, 4, 0] rfl H
  · have H := H.2 c
    refine r_iload (n := 40) 3 dX11_hides_38 rfl rfl ?_
    refine r_aload_n (n := 41) 0 dX11_hides_40 rfl rfl ?_
    refine r_iload_n (n := 42) 1 dX11_hides_41 rfl rfl ?_
    refine r_iload (n := 44) 4 dX11_hides_42 rfl rfl ?_
    refine rs_cVi (n := 47) (rest := [.int _]) (As := [.int _, .int _]) vm_X11_rowAt gw_1180 so_129 cq_10 dX11_hides_44 rfl rfl (Nat.le_of_ble_eq_true rfl) rfl (CI.mono H (fun r2 I3 X4 H => ?_))
    refine r_ior (n := 48) dX11_hides_47 rfl ?_
    have H := H _ rfl
    refine r_istore (n := 50) (lv' := [(4, .int _), (0, .ref _), (1, .int _), (2, .int _), (5, .int _)]) dX11_hides_48 (by decide) rfl rfl ?_
    have H := H _ rfl
    refine r_iinc (n := 53) (lv' := [(5, .int _), (4, .int _), (0, .ref _), (1, .int _), (2, .int _)]) 4 dX11_hides_50 rfl rfl (by decide) rfl rfl ?_
    refine r_goto (n := 27) dX11_hides_53 (by decide) ?_
    exact r_sub [2, 3, 4, 1, 0] rfl H
set_option maxRecDepth 20000 in
theorem rg_X11_hides_59 {g : OG} {d : Nat} {I : IT} {X : XT} {K : Int32 → IT → XT → Prop} {l2 : Int32} {l4 : Int32} {l5 : Int32} 
    (H : ((I 129 10) ≤ l5 →
        K ((-9)) I X) ∧
      (¬ (I 129 10) ≤ l5 →
        CI g d iX11_has [.int (l4 &&& (l2 ^^^ ((-1)))), .int l5] I X (fun r1 I2 X3 =>
          (r1 = 0 →
            ∀ x4 : Int32, x4 = l5 + 1 →
            SR g (d + 1) iX11_hides 59 [(0, rf g 129), (2, .int l2), (4, .int l4), (5, .int x4)] I2 X3 (qI K)) ∧
          (¬ r1 = 0 →
            K l5 I2 X3)))) : SR g (d + 1) iX11_hides 59 [(0, rf g 129), (2, .int l2), (4, .int l4), (5, .int l5)] I X (qI K) := by
  refine r_iload (n := 61) 3 dX11_hides_59 rfl rfl ?_
  refine r_aload_n (n := 62) 0 dX11_hides_61 rfl rfl ?_
  refine rs_getI (n := 65) cls_10 10 fi_10_10 so_129 gw_1036 dX11_hides_62 rfl ?_
  refine r_icmp_ge (n := 68) (tgt := 91) dX11_hides_65 (by decide) rfl (fun c => ?_) (fun c => ?_)
  · have H := H.1 c
    refine r_bipush (n := 93) (v := (-9)) dX11_hides_91 kb_m9 rfl ?_
    exact rs_iret dX11_hides_93 rfl H
  · have H := H.2 c
    refine r_iload (n := 70) 2 dX11_hides_68 rfl rfl ?_
    refine r_iload_n (n := 71) 1 dX11_hides_70 rfl rfl ?_
    refine r_iconst (n := 72) (v := (-1)) dX11_hides_71 ki_m1 rfl ?_
    refine r_ixor (n := 73) dX11_hides_72 rfl ?_
    refine r_iand (n := 74) dX11_hides_73 rfl ?_
    refine r_iload (n := 76) 3 dX11_hides_74 rfl rfl ?_
    refine rs_cSi (n := 79) (rest := []) (As := [.int _, .int _]) sm_X11_has gw_1336 dX11_hides_76 rfl rfl (Nat.le_of_ble_eq_true rfl) rfl (CI.mono H (fun r1 I2 X3 H => ?_))
    refine r_if_eq (n := 82) (tgt := 85) dX11_hides_79 (by decide) rfl (fun c => ?_) (fun c => ?_)
    · have H := H.1 c
      have H := H _ rfl
      refine r_iinc (n := 88) (lv' := [(5, .int _), (0, .ref _), (2, .int _), (4, .int _)]) 3 dX11_hides_85 rfl rfl (by decide) rfl rfl ?_
      refine r_goto (n := 59) dX11_hides_88 (by decide) ?_
      exact r_sub [1, 2, 3, 0] rfl H
    · have H := H.2 c
      refine r_iload (n := 84) 3 dX11_hides_82 rfl rfl ?_
      exact rs_iret dX11_hides_84 rfl H
set_option maxRecDepth 20000 in
theorem en_X11_spring {g : OG} {d : Nat} {I : IT} {X : XT} {K : Int32 → IT → XT → Prop} {l1 : Int32} {l2 : Int32} 
    (H : CI g d iX11_isHouse [rf g 129, .int l1] I X (fun r1 I2 X3 =>
        (r1 = 0 →
          K ((-1)) I2 X3) ∧
        (¬ r1 = 0 →
          CI g d iX11_in [.int l2, .int 0, .int 20] I2 X3 (fun r4 I5 X6 =>
            (r4 = 0 →
              K ((-1)) I5 X6) ∧
            (¬ r4 = 0 →
              CI g d iX11_springOf [rf g 129, .int l1, .int l2] I5 X6 (fun r7 I8 X9 =>
                K r7 I8 X9)))))) : CI g (d + 1) iX11_spring [rf g 129, .int l1, .int l2] I X K := by
  refine ocall_of (by decide) (Nat.le_of_ble_eq_true rfl) ?_
  show SR g (d + 1) iX11_spring 0 [(0, rf g 129), (1, .int l1), (2, .int l2)] I X (qI K)
  refine r_aload_n (n := 1) 0 dX11_spring_0 rfl rfl ?_
  refine r_iload_n (n := 2) 1 dX11_spring_1 rfl rfl ?_
  refine rs_cVi (n := 5) (rest := []) (As := [.int _]) vm_X11_isHouse gw_1250 so_129 cq_10 dX11_spring_2 rfl rfl (Nat.le_of_ble_eq_true rfl) rfl (CI.mono H (fun r1 I2 X3 H => ?_))
  refine r_if_eq (n := 8) (tgt := 27) dX11_spring_5 (by decide) rfl (fun c => ?_) (fun c => ?_)
  · have H := H.1 c
    refine r_iconst (n := 28) (v := (-1)) dX11_spring_27 ki_m1 rfl ?_
    exact rs_iret dX11_spring_28 rfl H
  · have H := H.2 c
    refine r_iload_n (n := 9) 2 dX11_spring_8 rfl rfl ?_
    refine r_iconst (n := 10) (v := 0) dX11_spring_9 ki_0 rfl ?_
    refine r_bipush (n := 12) (v := 20) dX11_spring_10 kb_20 rfl ?_
    refine rs_cSi (n := 15) (rest := []) (As := [.int _, .int _, .int _]) sm_X11_in gw_1150 dX11_spring_12 rfl rfl (Nat.le_of_ble_eq_true rfl) rfl (CI.mono H (fun r4 I5 X6 H => ?_))
    refine r_if_eq (n := 18) (tgt := 27) dX11_spring_15 (by decide) rfl (fun c => ?_) (fun c => ?_)
    · have H := H.1 c
      refine r_iconst (n := 28) (v := (-1)) dX11_spring_27 ki_m1 rfl ?_
      exact rs_iret dX11_spring_28 rfl H
    · have H := H.2 c
      refine r_aload_n (n := 19) 0 dX11_spring_18 rfl rfl ?_
      refine r_iload_n (n := 20) 1 dX11_spring_19 rfl rfl ?_
      refine r_iload_n (n := 21) 2 dX11_spring_20 rfl rfl ?_
      refine rs_cVi (n := 24) (rest := []) (As := [.int _, .int _]) vm_X11_springOf gw_1274 so_129 cq_10 dX11_spring_21 rfl rfl (Nat.le_of_ble_eq_true rfl) rfl (CI.mono H (fun r7 I8 X9 H => ?_))
      refine r_goto (n := 28) dX11_spring_24 (by decide) ?_
      exact rs_iret dX11_spring_28 rfl H
set_option maxRecDepth 20000 in
theorem en_X11_partsOf {g : OG} {d : Nat} {I : IT} {X : XT} {K : Int64 → IT → XT → Prop} {l1 : Int32} {l2 : Int32} {l3 : Int32} {l4 : Int32} 
    (H : ∀ x1 : Int32, x1 = 1 + l4 →
      vp_in l2 6 ∧
      (¬ l4 = (I 131 l2.toNatClampNeg) →
        CI g d iX11_rowAt [rf g 129, .int l2, .int l4] I X (fun r3 I4 X5 =>
          CI g d iX11_isNone [.int r3] I4 X5 (fun r6 I7 X8 =>
            (¬ r6 = 0 →
              CV g d iX11_copyTo [rf g 129, .int x1, .int (x1 + 1)] I7 X8 (fun I9 X10 =>
                CV g d iX11_passes [rf g 129, .int (x1 + 1)] I9 X10 (fun I11 X12 =>
                  CL g d iX11_partsOf [rf g 129, .int l1, .int l2, .int l3, .int (l4 + 1)] I11 X12 (fun r13 I14 X15 =>
                    (¬ (0 : Int32) = 0 →
                      CV g d iX11_copyTo [rf g 129, .int x1, .int (x1 + 1)] I14 X15 (fun I16 X17 =>
                        CV g d iX11_carries [rf g 129, .int (x1 + 1), .int (r3 - r3 / 6 * 6)] I16 X17 (fun I18 X19 =>
                          CV g d iX11_passes [rf g 129, .int (x1 + 1)] I18 X19 (fun I20 X21 =>
                            CL g d iX11_partsOf [rf g 129, .int l1, .int l2, .int l3, .int (l4 + 1)] I20 X21 (fun r22 I23 X24 =>
                              K ((l3.toInt64 * r13) + (((12 - l3).toInt64) * r22)) I23 X24))))) ∧
                    ((0 : Int32) = 0 →
                      K (12 * r13) I14 X15))))) ∧
            (r6 = 0 →
              CI g d iX11_canMove [rf g 129, .int x1, .int r3] I7 X8 (fun r25 I26 X27 =>
                (r25 = 0 →
                  CV g d iX11_copyTo [rf g 129, .int x1, .int (x1 + 1)] I26 X27 (fun I28 X29 =>
                    CV g d iX11_passes [rf g 129, .int (x1 + 1)] I28 X29 (fun I30 X31 =>
                      CL g d iX11_partsOf [rf g 129, .int l1, .int l2, .int l3, .int (l4 + 1)] I30 X31 (fun r32 I33 X34 =>
                        (¬ (0 : Int32) = 0 →
                          CV g d iX11_copyTo [rf g 129, .int x1, .int (x1 + 1)] I33 X34 (fun I35 X36 =>
                            CV g d iX11_carries [rf g 129, .int (x1 + 1), .int (r3 - r3 / 6 * 6)] I35 X36 (fun I37 X38 =>
                              CV g d iX11_passes [rf g 129, .int (x1 + 1)] I37 X38 (fun I39 X40 =>
                                CL g d iX11_partsOf [rf g 129, .int l1, .int l2, .int l3, .int (l4 + 1)] I39 X40 (fun r41 I42 X43 =>
                                  K ((l3.toInt64 * r32) + (((12 - l3).toInt64) * r41)) I42 X43))))) ∧
                        ((0 : Int32) = 0 →
                          K (12 * r32) I33 X34))))) ∧
                (¬ r25 = 0 →
                  CV g d iX11_copyTo [rf g 129, .int x1, .int (x1 + 1)] I26 X27 (fun I44 X45 =>
                    CV g d iX11_passes [rf g 129, .int (x1 + 1)] I44 X45 (fun I46 X47 =>
                      CL g d iX11_partsOf [rf g 129, .int l1, .int l2, .int l3, .int (l4 + 1)] I46 X47 (fun r48 I49 X50 =>
                        (¬ (1 : Int32) = 0 →
                          CV g d iX11_copyTo [rf g 129, .int x1, .int (x1 + 1)] I49 X50 (fun I51 X52 =>
                            CV g d iX11_carries [rf g 129, .int (x1 + 1), .int (r3 - r3 / 6 * 6)] I51 X52 (fun I53 X54 =>
                              CV g d iX11_passes [rf g 129, .int (x1 + 1)] I53 X54 (fun I55 X56 =>
                                CL g d iX11_partsOf [rf g 129, .int l1, .int l2, .int l3, .int (l4 + 1)] I55 X56 (fun r57 I58 X59 =>
                                  K ((l3.toInt64 * r48) + (((12 - l3).toInt64) * r57)) I58 X59))))) ∧
                        ((1 : Int32) = 0 →
                          K (12 * r48) I49 X50)))))))))) ∧
      (l4 = (I 131 l2.toNatClampNeg) →
        CI g d iX11_isBurning [rf g 129, .int x1, .int l1] I X (fun r60 I61 X62 =>
          (r60 = 0 →
            K 0 I61 X62) ∧
          (¬ r60 = 0 →
            K 1 I61 X62)))) : CL g (d + 1) iX11_partsOf [rf g 129, .int l1, .int l2, .int l3, .int l4] I X K := by
  refine ocall_of (by decide) (Nat.le_of_ble_eq_true rfl) ?_
  show SR g (d + 1) iX11_partsOf 0 [(0, rf g 129), (1, .int l1), (2, .int l2), (3, .int l3), (4, .int l4)] I X (qL K)
  refine r_iconst (n := 1) (v := 1) dX11_partsOf_0 ki_1 rfl ?_
  refine r_iload (n := 3) 4 dX11_partsOf_1 rfl rfl ?_
  refine r_iadd (n := 4) dX11_partsOf_3 rfl ?_
  have H := H _ rfl
  refine r_istore (n := 6) (lv' := [(5, .int _), (0, .ref _), (1, .int _), (2, .int _), (3, .int _), (4, .int _)]) dX11_partsOf_4 (by decide) rfl rfl ?_
  refine r_iload (n := 8) 5 dX11_partsOf_6 rfl rfl ?_
  refine r_aload_n (n := 9) 1 dX11_partsOf_8 rfl rfl ?_
  refine r_getR (n := 12) cls_10 5 fi_10_5 so_129 gw_1031 dX11_partsOf_9 rfl sr_129_5 (by decide) ?_
  refine r_iload_n (n := 13) 3 dX11_partsOf_12 rfl rfl ?_
  obtain ⟨hi2, H⟩ := H
  refine rs_iald (n := 14) sa_131 hi2 dX11_partsOf_13 rfl ?_
  refine r_icmp_ne (n := 17) (tgt := 33) dX11_partsOf_14 (by decide) rfl (fun c => ?_) (fun c => ?_)
  · have H := H.1 c
    refine r_aload_n (n := 34) 1 dX11_partsOf_33 rfl rfl ?_
    refine r_iload_n (n := 35) 3 dX11_partsOf_34 rfl rfl ?_
    refine r_iload (n := 37) 5 dX11_partsOf_35 rfl rfl ?_
    refine rs_cVi (n := 40) (rest := []) (As := [.int _, .int _]) vm_X11_rowAt gw_1180 so_129 cq_10 dX11_partsOf_37 rfl rfl (Nat.le_of_ble_eq_true rfl) rfl (CI.mono H (fun r3 I4 X5 H => ?_))
    refine r_istore (n := 42) (lv' := [(6, .int _), (5, .int _), (0, .ref _), (1, .int _), (2, .int _), (3, .int _), (4, .int _)]) dX11_partsOf_40 (by decide) rfl rfl ?_
    refine r_iload (n := 44) 0 dX11_partsOf_42 rfl rfl ?_
    refine rs_cSi (n := 47) (rest := []) (As := [.int _]) sm_X11_isNone gw_1415 dX11_partsOf_44 rfl rfl (Nat.le_of_ble_eq_true rfl) rfl (CI.mono H (fun r6 I7 X8 H => ?_))
    refine r_if_ne (n := 50) (tgt := 65) dX11_partsOf_47 (by decide) rfl (fun c => ?_) (fun c => ?_)
    · have H := H.1 c
      refine r_iconst (n := 66) (v := 0) dX11_partsOf_65 ki_0 rfl ?_
      refine r_istore (n := 68) (lv' := [(7, .int _), (6, .int _), (5, .int _), (0, .ref _), (1, .int _), (2, .int _), (3, .int _), (4, .int _)]) dX11_partsOf_66 (by decide) rfl rfl ?_
      refine r_aload_n (n := 69) 3 dX11_partsOf_68 rfl rfl ?_
      refine r_iload (n := 71) 2 dX11_partsOf_69 rfl rfl ?_
      refine r_iload (n := 73) 2 dX11_partsOf_71 rfl rfl ?_
      refine r_iconst (n := 74) (v := 1) dX11_partsOf_73 ki_1 rfl ?_
      refine r_iadd (n := 75) dX11_partsOf_74 rfl ?_
      refine rs_cVv (n := 78) (rest := []) (As := [.int _, .int _]) vm_X11_copyTo gw_1367 so_129 cq_10 dX11_partsOf_75 rfl rfl (Nat.le_of_ble_eq_true rfl) rfl (CV.mono H (fun I9 X10 H => ?_))
      refine r_aload_n (n := 79) 3 dX11_partsOf_78 rfl rfl ?_
      refine r_iload (n := 81) 2 dX11_partsOf_79 rfl rfl ?_
      refine r_iconst (n := 82) (v := 1) dX11_partsOf_81 ki_1 rfl ?_
      refine r_iadd (n := 83) dX11_partsOf_82 rfl ?_
      refine rs_cVv (n := 86) (rest := []) (As := [.int _]) vm_X11_passes gw_1332 so_129 cq_10 dX11_partsOf_83 rfl rfl (Nat.le_of_ble_eq_true rfl) rfl (CV.mono H (fun I11 X12 H => ?_))
      refine r_aload_n (n := 87) 3 dX11_partsOf_86 rfl rfl ?_
      refine r_iload_n (n := 88) 4 dX11_partsOf_87 rfl rfl ?_
      refine r_iload_n (n := 89) 5 dX11_partsOf_88 rfl rfl ?_
      refine r_iload_n (n := 90) 6 dX11_partsOf_89 rfl rfl ?_
      refine r_iload (n := 92) 7 dX11_partsOf_90 rfl rfl ?_
      refine r_iconst (n := 93) (v := 1) dX11_partsOf_92 ki_1 rfl ?_
      refine r_iadd (n := 94) dX11_partsOf_93 rfl ?_
      refine rs_cVl (n := 97) (rest := []) (As := [.int _, .int _, .int _, .int _]) vm_X11_partsOf gw_1487 so_129 cq_10 dX11_partsOf_94 rfl rfl (Nat.le_of_ble_eq_true rfl) rfl (CL.mono H (fun r13 I14 X15 H => ?_))
      refine r_lstore (n := 99) (lv' := [(8, .long _), (7, .int _), (6, .int _), (5, .int _), (0, .ref _), (1, .int _), (2, .int _), (3, .int _), (4, .int _)]) dX11_partsOf_97 (by decide) rfl rfl ?_
      refine r_iload (n := 101) 1 dX11_partsOf_99 rfl rfl ?_
      refine r_if_ne (n := 104) (tgt := 111) dX11_partsOf_101 (by decide) rfl (fun c => ?_) (fun c => ?_)
      · have H := H.1 c
        refine r_aload_n (n := 112) 4 dX11_partsOf_111 rfl rfl ?_
        refine r_iload (n := 114) 3 dX11_partsOf_112 rfl rfl ?_
        refine r_iload (n := 116) 3 dX11_partsOf_114 rfl rfl ?_
        refine r_iconst (n := 117) (v := 1) dX11_partsOf_116 ki_1 rfl ?_
        refine r_iadd (n := 118) dX11_partsOf_117 rfl ?_
        refine rs_cVv (n := 121) (rest := []) (As := [.int _, .int _]) vm_X11_copyTo gw_1367 so_129 cq_10 dX11_partsOf_118 rfl rfl (Nat.le_of_ble_eq_true rfl) rfl (CV.mono H (fun I16 X17 H => ?_))
        refine r_aload_n (n := 122) 4 dX11_partsOf_121 rfl rfl ?_
        refine r_iload (n := 124) 3 dX11_partsOf_122 rfl rfl ?_
        refine r_iconst (n := 125) (v := 1) dX11_partsOf_124 ki_1 rfl ?_
        refine r_iadd (n := 126) dX11_partsOf_125 rfl ?_
        refine r_iload (n := 128) 2 dX11_partsOf_126 rfl rfl ?_
        refine r_bipush (n := 130) (v := 6) dX11_partsOf_128 kb_6 rfl ?_
        refine r_irem (n := 131) dX11_partsOf_130 (by decide) rfl ?_
        refine rs_cVv (n := 134) (rest := []) (As := [.int _, .int _]) vm_X11_carries gw_1317 so_129 cq_10 dX11_partsOf_131 rfl rfl (Nat.le_of_ble_eq_true rfl) rfl (CV.mono H (fun I18 X19 H => ?_))
        refine r_aload_n (n := 135) 4 dX11_partsOf_134 rfl rfl ?_
        refine r_iload (n := 137) 3 dX11_partsOf_135 rfl rfl ?_
        refine r_iconst (n := 138) (v := 1) dX11_partsOf_137 ki_1 rfl ?_
        refine r_iadd (n := 139) dX11_partsOf_138 rfl ?_
        refine rs_cVv (n := 142) (rest := []) (As := [.int _]) vm_X11_passes gw_1332 so_129 cq_10 dX11_partsOf_139 rfl rfl (Nat.le_of_ble_eq_true rfl) rfl (CV.mono H (fun I20 X21 H => ?_))
        refine r_iload_n (n := 143) 7 dX11_partsOf_142 rfl rfl ?_
        refine r_i2l (n := 144) dX11_partsOf_143 rfl ?_
        refine r_lload (n := 146) 0 dX11_partsOf_144 rfl rfl ?_
        refine r_lmul (n := 147) dX11_partsOf_146 rfl ?_
        refine r_bipush (n := 149) (v := 12) dX11_partsOf_147 kb_12 rfl ?_
        refine r_iload_n (n := 150) 7 dX11_partsOf_149 rfl rfl ?_
        refine r_isub (n := 151) dX11_partsOf_150 rfl ?_
        refine r_i2l (n := 152) dX11_partsOf_151 rfl ?_
        refine r_aload_n (n := 153) 4 dX11_partsOf_152 rfl rfl ?_
        refine r_iload_n (n := 154) 5 dX11_partsOf_153 rfl rfl ?_
        refine r_iload_n (n := 155) 6 dX11_partsOf_154 rfl rfl ?_
        refine r_iload_n (n := 156) 7 dX11_partsOf_155 rfl rfl ?_
        refine r_iload (n := 158) 8 dX11_partsOf_156 rfl rfl ?_
        refine r_iconst (n := 159) (v := 1) dX11_partsOf_158 ki_1 rfl ?_
        refine r_iadd (n := 160) dX11_partsOf_159 rfl ?_
        refine rs_cVl (n := 163) (rest := [.long _, .long _]) (As := [.int _, .int _, .int _, .int _]) vm_X11_partsOf gw_1487 so_129 cq_10 dX11_partsOf_160 rfl rfl (Nat.le_of_ble_eq_true rfl) rfl (CL.mono H (fun r22 I23 X24 H => ?_))
        refine r_lmul (n := 164) dX11_partsOf_163 rfl ?_
        refine r_ladd (n := 165) dX11_partsOf_164 rfl ?_
        exact rs_lret dX11_partsOf_165 rfl H
      · have H := H.2 c
        refine r_ldc2 (n := 107) (v := 12) dX11_partsOf_104 gw_1486 rfl ?_
        refine r_lload (n := 109) 0 dX11_partsOf_107 rfl rfl ?_
        refine r_lmul (n := 110) dX11_partsOf_109 rfl ?_
        exact rs_lret dX11_partsOf_110 rfl H
    · have H := H.2 c
      refine r_aload_n (n := 51) 2 dX11_partsOf_50 rfl rfl ?_
      refine r_iload (n := 53) 1 dX11_partsOf_51 rfl rfl ?_
      refine r_iload (n := 55) 0 dX11_partsOf_53 rfl rfl ?_
      refine rs_cVi (n := 58) (rest := []) (As := [.int _, .int _]) vm_X11_canMove gw_1411 so_129 cq_10 dX11_partsOf_55 rfl rfl (Nat.le_of_ble_eq_true rfl) rfl (CI.mono H (fun r25 I26 X27 H => ?_))
      refine r_if_eq (n := 61) (tgt := 65) dX11_partsOf_58 (by decide) rfl (fun c => ?_) (fun c => ?_)
      · have H := H.1 c
        refine r_iconst (n := 66) (v := 0) dX11_partsOf_65 ki_0 rfl ?_
        refine r_istore (n := 68) (lv' := [(7, .int _), (6, .int _), (5, .int _), (0, .ref _), (1, .int _), (2, .int _), (3, .int _), (4, .int _)]) dX11_partsOf_66 (by decide) rfl rfl ?_
        refine r_aload_n (n := 69) 3 dX11_partsOf_68 rfl rfl ?_
        refine r_iload (n := 71) 2 dX11_partsOf_69 rfl rfl ?_
        refine r_iload (n := 73) 2 dX11_partsOf_71 rfl rfl ?_
        refine r_iconst (n := 74) (v := 1) dX11_partsOf_73 ki_1 rfl ?_
        refine r_iadd (n := 75) dX11_partsOf_74 rfl ?_
        refine rs_cVv (n := 78) (rest := []) (As := [.int _, .int _]) vm_X11_copyTo gw_1367 so_129 cq_10 dX11_partsOf_75 rfl rfl (Nat.le_of_ble_eq_true rfl) rfl (CV.mono H (fun I28 X29 H => ?_))
        refine r_aload_n (n := 79) 3 dX11_partsOf_78 rfl rfl ?_
        refine r_iload (n := 81) 2 dX11_partsOf_79 rfl rfl ?_
        refine r_iconst (n := 82) (v := 1) dX11_partsOf_81 ki_1 rfl ?_
        refine r_iadd (n := 83) dX11_partsOf_82 rfl ?_
        refine rs_cVv (n := 86) (rest := []) (As := [.int _]) vm_X11_passes gw_1332 so_129 cq_10 dX11_partsOf_83 rfl rfl (Nat.le_of_ble_eq_true rfl) rfl (CV.mono H (fun I30 X31 H => ?_))
        refine r_aload_n (n := 87) 3 dX11_partsOf_86 rfl rfl ?_
        refine r_iload_n (n := 88) 4 dX11_partsOf_87 rfl rfl ?_
        refine r_iload_n (n := 89) 5 dX11_partsOf_88 rfl rfl ?_
        refine r_iload_n (n := 90) 6 dX11_partsOf_89 rfl rfl ?_
        refine r_iload (n := 92) 7 dX11_partsOf_90 rfl rfl ?_
        refine r_iconst (n := 93) (v := 1) dX11_partsOf_92 ki_1 rfl ?_
        refine r_iadd (n := 94) dX11_partsOf_93 rfl ?_
        refine rs_cVl (n := 97) (rest := []) (As := [.int _, .int _, .int _, .int _]) vm_X11_partsOf gw_1487 so_129 cq_10 dX11_partsOf_94 rfl rfl (Nat.le_of_ble_eq_true rfl) rfl (CL.mono H (fun r32 I33 X34 H => ?_))
        refine r_lstore (n := 99) (lv' := [(8, .long _), (7, .int _), (6, .int _), (5, .int _), (0, .ref _), (1, .int _), (2, .int _), (3, .int _), (4, .int _)]) dX11_partsOf_97 (by decide) rfl rfl ?_
        refine r_iload (n := 101) 1 dX11_partsOf_99 rfl rfl ?_
        refine r_if_ne (n := 104) (tgt := 111) dX11_partsOf_101 (by decide) rfl (fun c => ?_) (fun c => ?_)
        · have H := H.1 c
          refine r_aload_n (n := 112) 4 dX11_partsOf_111 rfl rfl ?_
          refine r_iload (n := 114) 3 dX11_partsOf_112 rfl rfl ?_
          refine r_iload (n := 116) 3 dX11_partsOf_114 rfl rfl ?_
          refine r_iconst (n := 117) (v := 1) dX11_partsOf_116 ki_1 rfl ?_
          refine r_iadd (n := 118) dX11_partsOf_117 rfl ?_
          refine rs_cVv (n := 121) (rest := []) (As := [.int _, .int _]) vm_X11_copyTo gw_1367 so_129 cq_10 dX11_partsOf_118 rfl rfl (Nat.le_of_ble_eq_true rfl) rfl (CV.mono H (fun I35 X36 H => ?_))
          refine r_aload_n (n := 122) 4 dX11_partsOf_121 rfl rfl ?_
          refine r_iload (n := 124) 3 dX11_partsOf_122 rfl rfl ?_
          refine r_iconst (n := 125) (v := 1) dX11_partsOf_124 ki_1 rfl ?_
          refine r_iadd (n := 126) dX11_partsOf_125 rfl ?_
          refine r_iload (n := 128) 2 dX11_partsOf_126 rfl rfl ?_
          refine r_bipush (n := 130) (v := 6) dX11_partsOf_128 kb_6 rfl ?_
          refine r_irem (n := 131) dX11_partsOf_130 (by decide) rfl ?_
          refine rs_cVv (n := 134) (rest := []) (As := [.int _, .int _]) vm_X11_carries gw_1317 so_129 cq_10 dX11_partsOf_131 rfl rfl (Nat.le_of_ble_eq_true rfl) rfl (CV.mono H (fun I37 X38 H => ?_))
          refine r_aload_n (n := 135) 4 dX11_partsOf_134 rfl rfl ?_
          refine r_iload (n := 137) 3 dX11_partsOf_135 rfl rfl ?_
          refine r_iconst (n := 138) (v := 1) dX11_partsOf_137 ki_1 rfl ?_
          refine r_iadd (n := 139) dX11_partsOf_138 rfl ?_
          refine rs_cVv (n := 142) (rest := []) (As := [.int _]) vm_X11_passes gw_1332 so_129 cq_10 dX11_partsOf_139 rfl rfl (Nat.le_of_ble_eq_true rfl) rfl (CV.mono H (fun I39 X40 H => ?_))
          refine r_iload_n (n := 143) 7 dX11_partsOf_142 rfl rfl ?_
          refine r_i2l (n := 144) dX11_partsOf_143 rfl ?_
          refine r_lload (n := 146) 0 dX11_partsOf_144 rfl rfl ?_
          refine r_lmul (n := 147) dX11_partsOf_146 rfl ?_
          refine r_bipush (n := 149) (v := 12) dX11_partsOf_147 kb_12 rfl ?_
          refine r_iload_n (n := 150) 7 dX11_partsOf_149 rfl rfl ?_
          refine r_isub (n := 151) dX11_partsOf_150 rfl ?_
          refine r_i2l (n := 152) dX11_partsOf_151 rfl ?_
          refine r_aload_n (n := 153) 4 dX11_partsOf_152 rfl rfl ?_
          refine r_iload_n (n := 154) 5 dX11_partsOf_153 rfl rfl ?_
          refine r_iload_n (n := 155) 6 dX11_partsOf_154 rfl rfl ?_
          refine r_iload_n (n := 156) 7 dX11_partsOf_155 rfl rfl ?_
          refine r_iload (n := 158) 8 dX11_partsOf_156 rfl rfl ?_
          refine r_iconst (n := 159) (v := 1) dX11_partsOf_158 ki_1 rfl ?_
          refine r_iadd (n := 160) dX11_partsOf_159 rfl ?_
          refine rs_cVl (n := 163) (rest := [.long _, .long _]) (As := [.int _, .int _, .int _, .int _]) vm_X11_partsOf gw_1487 so_129 cq_10 dX11_partsOf_160 rfl rfl (Nat.le_of_ble_eq_true rfl) rfl (CL.mono H (fun r41 I42 X43 H => ?_))
          refine r_lmul (n := 164) dX11_partsOf_163 rfl ?_
          refine r_ladd (n := 165) dX11_partsOf_164 rfl ?_
          exact rs_lret dX11_partsOf_165 rfl H
        · have H := H.2 c
          refine r_ldc2 (n := 107) (v := 12) dX11_partsOf_104 gw_1486 rfl ?_
          refine r_lload (n := 109) 0 dX11_partsOf_107 rfl rfl ?_
          refine r_lmul (n := 110) dX11_partsOf_109 rfl ?_
          exact rs_lret dX11_partsOf_110 rfl H
      · have H := H.2 c
        refine r_iconst (n := 62) (v := 1) dX11_partsOf_61 ki_1 rfl ?_
        refine r_goto (n := 66) dX11_partsOf_62 (by decide) ?_
        refine r_istore (n := 68) (lv' := [(7, .int _), (6, .int _), (5, .int _), (0, .ref _), (1, .int _), (2, .int _), (3, .int _), (4, .int _)]) dX11_partsOf_66 (by decide) rfl rfl ?_
        refine r_aload_n (n := 69) 3 dX11_partsOf_68 rfl rfl ?_
        refine r_iload (n := 71) 2 dX11_partsOf_69 rfl rfl ?_
        refine r_iload (n := 73) 2 dX11_partsOf_71 rfl rfl ?_
        refine r_iconst (n := 74) (v := 1) dX11_partsOf_73 ki_1 rfl ?_
        refine r_iadd (n := 75) dX11_partsOf_74 rfl ?_
        refine rs_cVv (n := 78) (rest := []) (As := [.int _, .int _]) vm_X11_copyTo gw_1367 so_129 cq_10 dX11_partsOf_75 rfl rfl (Nat.le_of_ble_eq_true rfl) rfl (CV.mono H (fun I44 X45 H => ?_))
        refine r_aload_n (n := 79) 3 dX11_partsOf_78 rfl rfl ?_
        refine r_iload (n := 81) 2 dX11_partsOf_79 rfl rfl ?_
        refine r_iconst (n := 82) (v := 1) dX11_partsOf_81 ki_1 rfl ?_
        refine r_iadd (n := 83) dX11_partsOf_82 rfl ?_
        refine rs_cVv (n := 86) (rest := []) (As := [.int _]) vm_X11_passes gw_1332 so_129 cq_10 dX11_partsOf_83 rfl rfl (Nat.le_of_ble_eq_true rfl) rfl (CV.mono H (fun I46 X47 H => ?_))
        refine r_aload_n (n := 87) 3 dX11_partsOf_86 rfl rfl ?_
        refine r_iload_n (n := 88) 4 dX11_partsOf_87 rfl rfl ?_
        refine r_iload_n (n := 89) 5 dX11_partsOf_88 rfl rfl ?_
        refine r_iload_n (n := 90) 6 dX11_partsOf_89 rfl rfl ?_
        refine r_iload (n := 92) 7 dX11_partsOf_90 rfl rfl ?_
        refine r_iconst (n := 93) (v := 1) dX11_partsOf_92 ki_1 rfl ?_
        refine r_iadd (n := 94) dX11_partsOf_93 rfl ?_
        refine rs_cVl (n := 97) (rest := []) (As := [.int _, .int _, .int _, .int _]) vm_X11_partsOf gw_1487 so_129 cq_10 dX11_partsOf_94 rfl rfl (Nat.le_of_ble_eq_true rfl) rfl (CL.mono H (fun r48 I49 X50 H => ?_))
        refine r_lstore (n := 99) (lv' := [(8, .long _), (7, .int _), (6, .int _), (5, .int _), (0, .ref _), (1, .int _), (2, .int _), (3, .int _), (4, .int _)]) dX11_partsOf_97 (by decide) rfl rfl ?_
        refine r_iload (n := 101) 1 dX11_partsOf_99 rfl rfl ?_
        refine r_if_ne (n := 104) (tgt := 111) dX11_partsOf_101 (by decide) rfl (fun c => ?_) (fun c => ?_)
        · have H := H.1 c
          refine r_aload_n (n := 112) 4 dX11_partsOf_111 rfl rfl ?_
          refine r_iload (n := 114) 3 dX11_partsOf_112 rfl rfl ?_
          refine r_iload (n := 116) 3 dX11_partsOf_114 rfl rfl ?_
          refine r_iconst (n := 117) (v := 1) dX11_partsOf_116 ki_1 rfl ?_
          refine r_iadd (n := 118) dX11_partsOf_117 rfl ?_
          refine rs_cVv (n := 121) (rest := []) (As := [.int _, .int _]) vm_X11_copyTo gw_1367 so_129 cq_10 dX11_partsOf_118 rfl rfl (Nat.le_of_ble_eq_true rfl) rfl (CV.mono H (fun I51 X52 H => ?_))
          refine r_aload_n (n := 122) 4 dX11_partsOf_121 rfl rfl ?_
          refine r_iload (n := 124) 3 dX11_partsOf_122 rfl rfl ?_
          refine r_iconst (n := 125) (v := 1) dX11_partsOf_124 ki_1 rfl ?_
          refine r_iadd (n := 126) dX11_partsOf_125 rfl ?_
          refine r_iload (n := 128) 2 dX11_partsOf_126 rfl rfl ?_
          refine r_bipush (n := 130) (v := 6) dX11_partsOf_128 kb_6 rfl ?_
          refine r_irem (n := 131) dX11_partsOf_130 (by decide) rfl ?_
          refine rs_cVv (n := 134) (rest := []) (As := [.int _, .int _]) vm_X11_carries gw_1317 so_129 cq_10 dX11_partsOf_131 rfl rfl (Nat.le_of_ble_eq_true rfl) rfl (CV.mono H (fun I53 X54 H => ?_))
          refine r_aload_n (n := 135) 4 dX11_partsOf_134 rfl rfl ?_
          refine r_iload (n := 137) 3 dX11_partsOf_135 rfl rfl ?_
          refine r_iconst (n := 138) (v := 1) dX11_partsOf_137 ki_1 rfl ?_
          refine r_iadd (n := 139) dX11_partsOf_138 rfl ?_
          refine rs_cVv (n := 142) (rest := []) (As := [.int _]) vm_X11_passes gw_1332 so_129 cq_10 dX11_partsOf_139 rfl rfl (Nat.le_of_ble_eq_true rfl) rfl (CV.mono H (fun I55 X56 H => ?_))
          refine r_iload_n (n := 143) 7 dX11_partsOf_142 rfl rfl ?_
          refine r_i2l (n := 144) dX11_partsOf_143 rfl ?_
          refine r_lload (n := 146) 0 dX11_partsOf_144 rfl rfl ?_
          refine r_lmul (n := 147) dX11_partsOf_146 rfl ?_
          refine r_bipush (n := 149) (v := 12) dX11_partsOf_147 kb_12 rfl ?_
          refine r_iload_n (n := 150) 7 dX11_partsOf_149 rfl rfl ?_
          refine r_isub (n := 151) dX11_partsOf_150 rfl ?_
          refine r_i2l (n := 152) dX11_partsOf_151 rfl ?_
          refine r_aload_n (n := 153) 4 dX11_partsOf_152 rfl rfl ?_
          refine r_iload_n (n := 154) 5 dX11_partsOf_153 rfl rfl ?_
          refine r_iload_n (n := 155) 6 dX11_partsOf_154 rfl rfl ?_
          refine r_iload_n (n := 156) 7 dX11_partsOf_155 rfl rfl ?_
          refine r_iload (n := 158) 8 dX11_partsOf_156 rfl rfl ?_
          refine r_iconst (n := 159) (v := 1) dX11_partsOf_158 ki_1 rfl ?_
          refine r_iadd (n := 160) dX11_partsOf_159 rfl ?_
          refine rs_cVl (n := 163) (rest := [.long _, .long _]) (As := [.int _, .int _, .int _, .int _]) vm_X11_partsOf gw_1487 so_129 cq_10 dX11_partsOf_160 rfl rfl (Nat.le_of_ble_eq_true rfl) rfl (CL.mono H (fun r57 I58 X59 H => ?_))
          refine r_lmul (n := 164) dX11_partsOf_163 rfl ?_
          refine r_ladd (n := 165) dX11_partsOf_164 rfl ?_
          exact rs_lret dX11_partsOf_165 rfl H
        · have H := H.2 c
          refine r_ldc2 (n := 107) (v := 12) dX11_partsOf_104 gw_1486 rfl ?_
          refine r_lload (n := 109) 0 dX11_partsOf_107 rfl rfl ?_
          refine r_lmul (n := 110) dX11_partsOf_109 rfl ?_
          exact rs_lret dX11_partsOf_110 rfl H
  · have H := H.2 c
    refine r_aload_n (n := 18) 1 dX11_partsOf_17 rfl rfl ?_
    refine r_iload (n := 20) 0 dX11_partsOf_18 rfl rfl ?_
    refine r_iload_n (n := 21) 2 dX11_partsOf_20 rfl rfl ?_
    refine rs_cVi (n := 24) (rest := []) (As := [.int _, .int _]) vm_X11_isBurning gw_1306 so_129 cq_10 dX11_partsOf_21 rfl rfl (Nat.le_of_ble_eq_true rfl) rfl (CI.mono H (fun r60 I61 X62 H => ?_))
    refine r_if_eq (n := 27) (tgt := 31) dX11_partsOf_24 (by decide) rfl (fun c => ?_) (fun c => ?_)
    · have H := H.1 c
      refine r_lconst (n := 32) (v := 0) dX11_partsOf_31 (by decide) rfl ?_
      exact rs_lret dX11_partsOf_32 rfl H
    · have H := H.2 c
      refine r_lconst (n := 28) (v := 1) dX11_partsOf_27 (by decide) rfl ?_
      refine r_goto (n := 32) dX11_partsOf_28 (by decide) ?_
      exact rs_lret dX11_partsOf_32 rfl H
set_option maxRecDepth 20000 in
theorem en_X11_odds {g : OG} {d : Nat} {I : IT} {X : XT} {K : Int32 → IT → XT → Prop} {l1 : Int32} {l2 : Int32} {l3 : Int32} 
    (H : CI g d iX11_isHouse [rf g 129, .int l1] I X (fun r1 I2 X3 =>
        (r1 = 0 →
          K ((-1)) I2 X3) ∧
        (¬ r1 = 0 →
          CI g d iX11_isRow [.int l2] I2 X3 (fun r4 I5 X6 =>
            (r4 = 0 →
              K ((-1)) I5 X6) ∧
            (¬ r4 = 0 →
              CI g d iX11_in [.int l3, .int 0, .int 12] I5 X6 (fun r7 I8 X9 =>
                (¬ r7 = 0 →
                  vp_in l2 6 ∧
                  (0 ≤ (I8 131 l2.toNatClampNeg) →
                    vp_in l2 6 ∧
                    ((I8 131 l2.toNatClampNeg) ≤ 4 →
                      CI g d iX11_areMoves [rf g 129, .int l2] I8 X9 (fun r12 I13 X14 =>
                        (¬ r12 = 0 →
                          SR g (d + 1) iX11_odds 78 [(0, rf g 129), (1, .int l1), (2, .int l2), (3, .int l3), (4, .long 1), (6, .int 0)] I13 X14 (qI K)) ∧
                        (r12 = 0 →
                          CI g d iX11_meets [rf g 129, .int 3] I13 X14 (fun r15 I16 X17 =>
                            K r15 I16 X17)))) ∧
                    (¬ (I8 131 l2.toNatClampNeg) ≤ 4 →
                      CI g d iX11_meets [rf g 129, .int 5] I8 X9 (fun r18 I19 X20 =>
                        K r18 I19 X20))) ∧
                  (¬ 0 ≤ (I8 131 l2.toNatClampNeg) →
                    CI g d iX11_meets [rf g 129, .int 1] I8 X9 (fun r21 I22 X23 =>
                      K r21 I22 X23))) ∧
                (r7 = 0 →
                  K ((-1)) I8 X9))))))) : CI g (d + 1) iX11_odds [rf g 129, .int l1, .int l2, .int l3] I X K := by
  refine ocall_of (by decide) (Nat.le_of_ble_eq_true rfl) ?_
  show SR g (d + 1) iX11_odds 0 [(0, rf g 129), (1, .int l1), (2, .int l2), (3, .int l3)] I X (qI K)
  refine r_aload_n (n := 1) 0 dX11_odds_0 rfl rfl ?_
  refine r_iload_n (n := 2) 1 dX11_odds_1 rfl rfl ?_
  refine rs_cVi (n := 5) (rest := []) (As := [.int _]) vm_X11_isHouse gw_1250 so_129 cq_10 dX11_odds_2 rfl rfl (Nat.le_of_ble_eq_true rfl) rfl (CI.mono H (fun r1 I2 X3 H => ?_))
  refine r_if_eq (n := 8) (tgt := 25) dX11_odds_5 (by decide) rfl (fun c => ?_) (fun c => ?_)
  · have H := H.1 c
    refine r_iconst (n := 26) (v := (-1)) dX11_odds_25 ki_m1 rfl ?_
    exact rs_iret dX11_odds_26 rfl H
  · have H := H.2 c
    refine r_iload_n (n := 9) 2 dX11_odds_8 rfl rfl ?_
    refine rs_cSi (n := 12) (rest := []) (As := [.int _]) sm_X11_isRow gw_1169 dX11_odds_9 rfl rfl (Nat.le_of_ble_eq_true rfl) rfl (CI.mono H (fun r4 I5 X6 H => ?_))
    refine r_if_eq (n := 15) (tgt := 25) dX11_odds_12 (by decide) rfl (fun c => ?_) (fun c => ?_)
    · have H := H.1 c
      refine r_iconst (n := 26) (v := (-1)) dX11_odds_25 ki_m1 rfl ?_
      exact rs_iret dX11_odds_26 rfl H
    · have H := H.2 c
      refine r_iload_n (n := 16) 3 dX11_odds_15 rfl rfl ?_
      refine r_iconst (n := 17) (v := 0) dX11_odds_16 ki_0 rfl ?_
      refine r_bipush (n := 19) (v := 12) dX11_odds_17 kb_12 rfl ?_
      refine rs_cSi (n := 22) (rest := []) (As := [.int _, .int _, .int _]) sm_X11_in gw_1150 dX11_odds_19 rfl rfl (Nat.le_of_ble_eq_true rfl) rfl (CI.mono H (fun r7 I8 X9 H => ?_))
      refine r_if_ne (n := 25) (tgt := 27) dX11_odds_22 (by decide) rfl (fun c => ?_) (fun c => ?_)
      · have H := H.1 c
        refine r_aload_n (n := 28) 0 dX11_odds_27 rfl rfl ?_
        refine r_getR (n := 31) cls_10 5 fi_10_5 so_129 gw_1031 dX11_odds_28 rfl sr_129_5 (by decide) ?_
        refine r_iload_n (n := 32) 2 dX11_odds_31 rfl rfl ?_
        obtain ⟨hi10, H⟩ := H
        refine rs_iald (n := 33) sa_131 hi10 dX11_odds_32 rfl ?_
        refine r_if_ge (n := 36) (tgt := 42) dX11_odds_33 (by decide) rfl (fun c => ?_) (fun c => ?_)
        · have H := H.1 c
          refine r_aload_n (n := 43) 0 dX11_odds_42 rfl rfl ?_
          refine r_getR (n := 46) cls_10 5 fi_10_5 so_129 gw_1031 dX11_odds_43 rfl sr_129_5 (by decide) ?_
          refine r_iload_n (n := 47) 2 dX11_odds_46 rfl rfl ?_
          obtain ⟨hi11, H⟩ := H
          refine rs_iald (n := 48) sa_131 hi11 dX11_odds_47 rfl ?_
          refine r_iconst (n := 49) (v := 4) dX11_odds_48 ki_4 rfl ?_
          refine r_icmp_le (n := 52) (tgt := 58) dX11_odds_49 (by decide) rfl (fun c => ?_) (fun c => ?_)
          · have H := H.1 c
            refine r_aload_n (n := 59) 0 dX11_odds_58 rfl rfl ?_
            refine r_iload_n (n := 60) 2 dX11_odds_59 rfl rfl ?_
            refine rs_cVi (n := 63) (rest := []) (As := [.int _]) vm_X11_areMoves gw_1450 so_129 cq_10 dX11_odds_60 rfl rfl (Nat.le_of_ble_eq_true rfl) rfl (CI.mono H (fun r12 I13 X14 H => ?_))
            refine r_if_ne (n := 66) (tgt := 72) dX11_odds_63 (by decide) rfl (fun c => ?_) (fun c => ?_)
            · have H := H.1 c
              refine r_lconst (n := 73) (v := 1) dX11_odds_72 (by decide) rfl ?_
              refine r_lstore (n := 75) (lv' := [(4, .long _), (0, .ref _), (1, .int _), (2, .int _), (3, .int _)]) dX11_odds_73 (by decide) rfl rfl ?_
              refine r_iconst (n := 76) (v := 0) dX11_odds_75 ki_0 rfl ?_
              refine r_istore (n := 78) (lv' := [(6, .int _), (4, .long _), (0, .ref _), (1, .int _), (2, .int _), (3, .int _)]) dX11_odds_76 (by decide) rfl rfl ?_
              exact r_sub [2, 3, 4, 5, 1, 0] rfl H
            · have H := H.2 c
              refine r_aload_n (n := 67) 0 dX11_odds_66 rfl rfl ?_
              refine r_iconst (n := 68) (v := 3) dX11_odds_67 ki_3 rfl ?_
              refine rs_cVi (n := 71) (rest := []) (As := [.int _]) vm_X11_meets gw_1172 so_129 cq_10 dX11_odds_68 rfl rfl (Nat.le_of_ble_eq_true rfl) rfl (CI.mono H (fun r15 I16 X17 H => ?_))
              exact rs_iret dX11_odds_71 rfl H
          · have H := H.2 c
            refine r_aload_n (n := 53) 0 dX11_odds_52 rfl rfl ?_
            refine r_iconst (n := 54) (v := 5) dX11_odds_53 ki_5 rfl ?_
            refine rs_cVi (n := 57) (rest := []) (As := [.int _]) vm_X11_meets gw_1172 so_129 cq_10 dX11_odds_54 rfl rfl (Nat.le_of_ble_eq_true rfl) rfl (CI.mono H (fun r18 I19 X20 H => ?_))
            exact rs_iret dX11_odds_57 rfl H
        · have H := H.2 c
          refine r_aload_n (n := 37) 0 dX11_odds_36 rfl rfl ?_
          refine r_iconst (n := 38) (v := 1) dX11_odds_37 ki_1 rfl ?_
          refine rs_cVi (n := 41) (rest := []) (As := [.int _]) vm_X11_meets gw_1172 so_129 cq_10 dX11_odds_38 rfl rfl (Nat.le_of_ble_eq_true rfl) rfl (CI.mono H (fun r21 I22 X23 H => ?_))
          exact rs_iret dX11_odds_41 rfl H
      · have H := H.2 c
        refine r_iconst (n := 26) (v := (-1)) dX11_odds_25 ki_m1 rfl ?_
        exact rs_iret dX11_odds_26 rfl H
set_option maxRecDepth 20000 in
theorem rg_X11_odds_78 {g : OG} {d : Nat} {I : IT} {X : XT} {K : Int32 → IT → XT → Prop} {l1 : Int32} {l2 : Int32} {l3 : Int32} {l4 : Int64} {l6 : Int32} 
    (H : vp_in l2 6 ∧
      ((I 131 l2.toNatClampNeg) ≤ l6 →
        CV g d iX11_copyTo [rf g 129, .int 0, .int 1] I X (fun I2 X3 =>
          CL g d iX11_partsOf [rf g 129, .int l1, .int l2, .int l3, .int 0] I2 X3 (fun r4 I5 X6 =>
            CI g d iX11_fraction [rf g 129, .long r4, .long l4] I5 X6 (fun r7 I8 X9 =>
              K r7 I8 X9)))) ∧
      (¬ (I 131 l2.toNatClampNeg) ≤ l6 →
        ∀ x10 : Int64, x10 = l4 * 12 →
        ∀ x11 : Int32, x11 = l6 + 1 →
        SR g (d + 1) iX11_odds 78 [(0, rf g 129), (1, .int l1), (2, .int l2), (3, .int l3), (4, .long x10), (6, .int x11)] I X (qI K))) : SR g (d + 1) iX11_odds 78 [(0, rf g 129), (1, .int l1), (2, .int l2), (3, .int l3), (4, .long l4), (6, .int l6)] I X (qI K) := by
  refine r_iload (n := 80) 5 dX11_odds_78 rfl rfl ?_
  refine r_aload_n (n := 81) 0 dX11_odds_80 rfl rfl ?_
  refine r_getR (n := 84) cls_10 5 fi_10_5 so_129 gw_1031 dX11_odds_81 rfl sr_129_5 (by decide) ?_
  refine r_iload_n (n := 85) 2 dX11_odds_84 rfl rfl ?_
  obtain ⟨hi1, H⟩ := H
  refine rs_iald (n := 86) sa_131 hi1 dX11_odds_85 rfl ?_
  refine r_icmp_ge (n := 89) (tgt := 103) dX11_odds_86 (by decide) rfl (fun c => ?_) (fun c => ?_)
  · have H := H.1 c
    refine r_aload_n (n := 104) 0 dX11_odds_103 rfl rfl ?_
    refine r_iconst (n := 105) (v := 0) dX11_odds_104 ki_0 rfl ?_
    refine r_iconst (n := 106) (v := 1) dX11_odds_105 ki_1 rfl ?_
    refine rs_cVv (n := 109) (rest := []) (As := [.int _, .int _]) vm_X11_copyTo gw_1367 so_129 cq_10 dX11_odds_106 rfl rfl (Nat.le_of_ble_eq_true rfl) rfl (CV.mono H (fun I2 X3 H => ?_))
    refine r_aload_n (n := 110) 0 dX11_odds_109 rfl rfl ?_
    refine r_aload_n (n := 111) 0 dX11_odds_110 rfl rfl ?_
    refine r_iload_n (n := 112) 1 dX11_odds_111 rfl rfl ?_
    refine r_iload_n (n := 113) 2 dX11_odds_112 rfl rfl ?_
    refine r_iload_n (n := 114) 3 dX11_odds_113 rfl rfl ?_
    refine r_iconst (n := 115) (v := 0) dX11_odds_114 ki_0 rfl ?_
    refine rs_cVl (n := 118) (rest := [.ref _]) (As := [.int _, .int _, .int _, .int _]) vm_X11_partsOf gw_1487 so_129 cq_10 dX11_odds_115 rfl rfl (Nat.le_of_ble_eq_true rfl) rfl (CL.mono H (fun r4 I5 X6 H => ?_))
    refine r_lload (n := 120) 4 dX11_odds_118 rfl rfl ?_
    refine rs_cVi (n := 123) (rest := []) (As := [.long _, .long _]) vm_X11_fraction gw_1434 so_129 cq_10 dX11_odds_120 rfl rfl (Nat.le_of_ble_eq_true rfl) rfl (CI.mono H (fun r7 I8 X9 H => ?_))
    exact rs_iret dX11_odds_123 rfl H
  · have H := H.2 c
    refine r_lload (n := 91) 4 dX11_odds_89 rfl rfl ?_
    refine r_ldc2 (n := 94) (v := 12) dX11_odds_91 gw_1486 rfl ?_
    refine r_lmul (n := 95) dX11_odds_94 rfl ?_
    have H := H _ rfl
    refine r_lstore (n := 97) (lv' := [(4, .long _), (0, .ref _), (1, .int _), (2, .int _), (3, .int _), (6, .int _)]) dX11_odds_95 (by decide) rfl rfl ?_
    have H := H _ rfl
    refine r_iinc (n := 100) (lv' := [(6, .int _), (4, .long _), (0, .ref _), (1, .int _), (2, .int _), (3, .int _)]) 5 dX11_odds_97 rfl rfl (by decide) rfl rfl ?_
    refine r_goto (n := 78) dX11_odds_100 (by decide) ?_
    exact r_sub [2, 3, 4, 5, 1, 0] rfl H
set_option maxRecDepth 20000 in
theorem en_X11_lots {g : OG} {d : Nat} {I : IT} {X : XT} {K : Int32 → IT → XT → Prop} {l1 : Int32} {l2 : Int32} 
    (H : CI g d iX11_in [.int l1, .int 1, .int 10] I X (fun r1 I2 X3 =>
        (r1 = 0 →
          K ((-1)) I2 X3) ∧
        (¬ r1 = 0 →
          CI g d iX11_in [.int l2, .int 1, .int 2147483646] I2 X3 (fun r4 I5 X6 =>
            (¬ r4 = 0 →
              (¬ (I5 129 10) = 0 →
                (((I5 129 22) + (2 * l1)) ≤ 40 →
                  ∀ x7 : Int64, x7 = l2.toInt64 →
                  SR g (d + 1) iX11_lots 55 [(0, rf g 129), (1, .int l1), (3, .long x7), (5, .int 0)] I5 X6 (qI K)) ∧
                (¬ ((I5 129 22) + (2 * l1)) ≤ 40 →
                  K ((-2)) I5 X6)) ∧
              ((I5 129 10) = 0 →
                K ((-4)) I5 X6)) ∧
            (r4 = 0 →
              K ((-1)) I5 X6))))) : CI g (d + 1) iX11_lots [rf g 129, .int l1, .int l2] I X K := by
  refine ocall_of (by decide) (Nat.le_of_ble_eq_true rfl) ?_
  show SR g (d + 1) iX11_lots 0 [(0, rf g 129), (1, .int l1), (2, .int l2)] I X (qI K)
  refine r_iload_n (n := 1) 1 dX11_lots_0 rfl rfl ?_
  refine r_iconst (n := 2) (v := 1) dX11_lots_1 ki_1 rfl ?_
  refine r_bipush (n := 4) (v := 10) dX11_lots_2 kb_10 rfl ?_
  refine rs_cSi (n := 7) (rest := []) (As := [.int _, .int _, .int _]) sm_X11_in gw_1150 dX11_lots_4 rfl rfl (Nat.le_of_ble_eq_true rfl) rfl (CI.mono H (fun r1 I2 X3 H => ?_))
  refine r_if_eq (n := 10) (tgt := 21) dX11_lots_7 (by decide) rfl (fun c => ?_) (fun c => ?_)
  · have H := H.1 c
    refine r_iconst (n := 22) (v := (-1)) dX11_lots_21 ki_m1 rfl ?_
    exact rs_iret dX11_lots_22 rfl H
  · have H := H.2 c
    refine r_iload_n (n := 11) 2 dX11_lots_10 rfl rfl ?_
    refine r_iconst (n := 12) (v := 1) dX11_lots_11 ki_1 rfl ?_
    refine r_ldcw (n := 15) (v := 2147483646) dX11_lots_12 gw_1495 rfl ?_
    refine rs_cSi (n := 18) (rest := []) (As := [.int _, .int _, .int _]) sm_X11_in gw_1150 dX11_lots_15 rfl rfl (Nat.le_of_ble_eq_true rfl) rfl (CI.mono H (fun r4 I5 X6 H => ?_))
    refine r_if_ne (n := 21) (tgt := 23) dX11_lots_18 (by decide) rfl (fun c => ?_) (fun c => ?_)
    · have H := H.1 c
      refine r_aload_n (n := 24) 0 dX11_lots_23 rfl rfl ?_
      refine rs_getI (n := 27) cls_10 10 fi_10_10 so_129 gw_1036 dX11_lots_24 rfl ?_
      refine r_if_ne (n := 30) (tgt := 33) dX11_lots_27 (by decide) rfl (fun c => ?_) (fun c => ?_)
      · have H := H.1 c
        refine r_aload_n (n := 34) 0 dX11_lots_33 rfl rfl ?_
        refine rs_getI (n := 37) cls_10 22 fi_10_22 so_129 gw_1048 dX11_lots_34 rfl ?_
        refine r_iconst (n := 38) (v := 2) dX11_lots_37 ki_2 rfl ?_
        refine r_iload_n (n := 39) 1 dX11_lots_38 rfl rfl ?_
        refine r_imul (n := 40) dX11_lots_39 rfl ?_
        refine r_iadd (n := 41) dX11_lots_40 rfl ?_
        refine r_bipush (n := 43) (v := 40) dX11_lots_41 kb_40 rfl ?_
        refine r_icmp_le (n := 46) (tgt := 49) dX11_lots_43 (by decide) rfl (fun c => ?_) (fun c => ?_)
        · have H := H.1 c
          refine r_iload_n (n := 50) 2 dX11_lots_49 rfl rfl ?_
          refine r_i2l (n := 51) dX11_lots_50 rfl ?_
          have H := H _ rfl
          refine r_lstore_n (n := 52) (lv' := [(3, .long _), (0, .ref _), (1, .int _), (2, .int _)]) dX11_lots_51 rfl (by decide) rfl rfl ?_
          refine r_iconst (n := 53) (v := 0) dX11_lots_52 ki_0 rfl ?_
          refine r_istore (n := 55) (lv' := [(5, .int _), (3, .long _), (0, .ref _), (1, .int _), (2, .int _)]) dX11_lots_53 (by decide) rfl rfl ?_
          exact r_sub [2, 3, 1, 0] rfl H
        · have H := H.2 c
          refine r_bipush (n := 48) (v := (-2)) dX11_lots_46 kb_m2 rfl ?_
          exact rs_iret dX11_lots_48 rfl H
      · have H := H.2 c
        refine r_bipush (n := 32) (v := (-4)) dX11_lots_30 kb_m4 rfl ?_
        exact rs_iret dX11_lots_32 rfl H
    · have H := H.2 c
      refine r_iconst (n := 22) (v := (-1)) dX11_lots_21 ki_m1 rfl ?_
      exact rs_iret dX11_lots_22 rfl H
set_option maxRecDepth 20000 in
theorem rg_X11_lots_55 {g : OG} {d : Nat} {I : IT} {X : XT} {K : Int32 → IT → XT → Prop} {l1 : Int32} {l3 : Int64} {l5 : Int32} 
    (H : (l1 ≤ l5 →
        CI g d iX11_burning [rf g 129, .int 0] I X (fun r1 I2 X3 =>
          CI g d iX11_bits [.int r1] I2 X3 (fun r4 I5 X6 =>
            K r4 I5 X6))) ∧
      (¬ l1 ≤ l5 →
        ∀ x7 : Int64, x7 = (48271 * l3) - (48271 * l3) / 2147483647 * 2147483647 →
        ¬ ((I 129 10).toInt64) = 0 ∧
        ∀ x9 : Int32, x9 = (x7 - x7 / ((I 129 10).toInt64) * ((I 129 10).toInt64)).toInt32 →
        ¬ ((I 129 10).toInt64) = 0 ∧
        ∀ x11 : Int32, x11 = ((x7 / 16) - (x7 / 16) / ((I 129 10).toInt64) * ((I 129 10).toInt64)).toInt32 →
        CI g d iX11_canCarry [rf g 129, .int 0, .int x9, .int x11] I X (fun r12 I13 X14 =>
          (r12 = 0 →
            CV g d iX11_remember [rf g 129] I13 X14 (fun I15 X16 =>
              CV g d iX11_passes [rf g 129, .int 0] I15 X16 (fun I17 X18 =>
                ∀ x19 : Int32, x19 = l5 + 1 →
                SR g (d + 1) iX11_lots 55 [(0, rf g 129), (1, .int l1), (3, .long x7), (5, .int x19)] I17 X18 (qI K)))) ∧
          (¬ r12 = 0 →
            CV g d iX11_remember [rf g 129] I13 X14 (fun I20 X21 =>
              CV g d iX11_carries [rf g 129, .int 0, .int x11] I20 X21 (fun I22 X23 =>
                CV g d iX11_remember [rf g 129] I22 X23 (fun I24 X25 =>
                  CV g d iX11_passes [rf g 129, .int 0] I24 X25 (fun I26 X27 =>
                    ∀ x28 : Int32, x28 = l5 + 1 →
                    SR g (d + 1) iX11_lots 55 [(0, rf g 129), (1, .int l1), (3, .long x7), (5, .int x28)] I26 X27 (qI K))))))))) : SR g (d + 1) iX11_lots 55 [(0, rf g 129), (1, .int l1), (3, .long l3), (5, .int l5)] I X (qI K) := by
  refine r_iload (n := 57) 3 dX11_lots_55 rfl rfl ?_
  refine r_iload_n (n := 58) 1 dX11_lots_57 rfl rfl ?_
  refine r_icmp_ge (n := 61) (tgt := 133) dX11_lots_58 (by decide) rfl (fun c => ?_) (fun c => ?_)
  · have H := H.1 c
    refine r_aload_n (n := 134) 0 dX11_lots_133 rfl rfl ?_
    refine r_iconst (n := 135) (v := 0) dX11_lots_134 ki_0 rfl ?_
    refine rs_cVi (n := 138) (rest := []) (As := [.int _]) vm_X11_burning gw_1321 so_129 cq_10 dX11_lots_135 rfl rfl (Nat.le_of_ble_eq_true rfl) rfl (CI.mono H (fun r1 I2 X3 H => ?_))
    refine rs_cSi (n := 141) (rest := []) (As := [.int _]) sm_X11_bits gw_1325 dX11_lots_138 rfl rfl (Nat.le_of_ble_eq_true rfl) rfl (CI.mono H (fun r4 I5 X6 H => ?_))
    exact rs_iret dX11_lots_141 rfl H
  · have H := H.2 c
    refine r_ldc2 (n := 64) (v := 48271) dX11_lots_61 gw_1496 rfl ?_
    refine r_lload_n (n := 65) 2 dX11_lots_64 rfl rfl ?_
    refine r_lmul (n := 66) dX11_lots_65 rfl ?_
    refine r_ldc2 (n := 69) (v := 2147483647) dX11_lots_66 gw_1497 rfl ?_
    refine r_lrem (n := 70) dX11_lots_69 (by decide) rfl ?_
    have H := H _ rfl
    refine r_lstore_n (n := 71) (lv' := [(3, .long _), (0, .ref _), (1, .int _), (5, .int _)]) dX11_lots_70 rfl (by decide) rfl rfl ?_
    refine r_lload_n (n := 72) 0 dX11_lots_71 rfl rfl ?_
    refine r_aload_n (n := 73) 1 dX11_lots_72 rfl rfl ?_
    refine rs_getI (n := 76) cls_10 10 fi_10_10 so_129 gw_1036 dX11_lots_73 rfl ?_
    refine r_i2l (n := 77) dX11_lots_76 rfl ?_
    obtain ⟨hz8, H⟩ := H
    refine r_lrem (n := 78) dX11_lots_77 hz8 rfl ?_
    refine r_l2i (n := 79) dX11_lots_78 rfl ?_
    have H := H _ rfl
    refine r_istore (n := 81) (lv' := [(6, .int _), (3, .long _), (0, .ref _), (1, .int _), (5, .int _)]) dX11_lots_79 (by decide) rfl rfl ?_
    refine r_lload_n (n := 82) 1 dX11_lots_81 rfl rfl ?_
    refine r_ldc2 (n := 85) (v := 16) dX11_lots_82 gw_1498 rfl ?_
    refine r_ldiv (n := 86) dX11_lots_85 (by decide) rfl ?_
    refine r_aload_n (n := 87) 2 dX11_lots_86 rfl rfl ?_
    refine rs_getI (n := 90) cls_10 10 fi_10_10 so_129 gw_1036 dX11_lots_87 rfl ?_
    refine r_i2l (n := 91) dX11_lots_90 rfl ?_
    obtain ⟨hz10, H⟩ := H
    refine r_lrem (n := 92) dX11_lots_91 hz10 rfl ?_
    refine r_l2i (n := 93) dX11_lots_92 rfl ?_
    have H := H _ rfl
    refine r_istore (n := 95) (lv' := [(7, .int _), (6, .int _), (3, .long _), (0, .ref _), (1, .int _), (5, .int _)]) dX11_lots_93 (by decide) rfl rfl ?_
    refine r_aload_n (n := 96) 3 dX11_lots_95 rfl rfl ?_
    refine r_iconst (n := 97) (v := 0) dX11_lots_96 ki_0 rfl ?_
    refine r_iload (n := 99) 1 dX11_lots_97 rfl rfl ?_
    refine r_iload (n := 101) 0 dX11_lots_99 rfl rfl ?_
    refine rs_cVi (n := 104) (rest := []) (As := [.int _, .int _, .int _]) vm_X11_canCarry gw_1302 so_129 cq_10 dX11_lots_101 rfl rfl (Nat.le_of_ble_eq_true rfl) rfl (CI.mono H (fun r12 I13 X14 H => ?_))
    refine r_if_eq (n := 107) (tgt := 118) dX11_lots_104 (by decide) rfl (fun c => ?_) (fun c => ?_)
    · have H := H.1 c
      refine r_aload_n (n := 119) 3 dX11_lots_118 rfl rfl ?_
      refine rs_cVv (n := 122) (rest := []) (As := []) vm_X11_remember gw_1294 so_129 cq_10 dX11_lots_119 rfl rfl (Nat.le_of_ble_eq_true rfl) rfl (CV.mono H (fun I15 X16 H => ?_))
      refine r_aload_n (n := 123) 3 dX11_lots_122 rfl rfl ?_
      refine r_iconst (n := 124) (v := 0) dX11_lots_123 ki_0 rfl ?_
      refine rs_cVv (n := 127) (rest := []) (As := [.int _]) vm_X11_passes gw_1332 so_129 cq_10 dX11_lots_124 rfl rfl (Nat.le_of_ble_eq_true rfl) rfl (CV.mono H (fun I17 X18 H => ?_))
      have H := H _ rfl
      refine r_iinc (n := 130) (lv' := [(5, .int _), (7, .int _), (6, .int _), (3, .long _), (0, .ref _), (1, .int _)]) 5 dX11_lots_127 rfl rfl (by decide) rfl rfl ?_
      refine r_goto (n := 55) dX11_lots_130 (by decide) ?_
      exact r_sub [4, 5, 3, 0] rfl H
    · have H := H.2 c
      refine r_aload_n (n := 108) 3 dX11_lots_107 rfl rfl ?_
      refine rs_cVv (n := 111) (rest := []) (As := []) vm_X11_remember gw_1294 so_129 cq_10 dX11_lots_108 rfl rfl (Nat.le_of_ble_eq_true rfl) rfl (CV.mono H (fun I20 X21 H => ?_))
      refine r_aload_n (n := 112) 3 dX11_lots_111 rfl rfl ?_
      refine r_iconst (n := 113) (v := 0) dX11_lots_112 ki_0 rfl ?_
      refine r_iload (n := 115) 0 dX11_lots_113 rfl rfl ?_
      refine rs_cVv (n := 118) (rest := []) (As := [.int _, .int _]) vm_X11_carries gw_1317 so_129 cq_10 dX11_lots_115 rfl rfl (Nat.le_of_ble_eq_true rfl) rfl (CV.mono H (fun I22 X23 H => ?_))
      refine r_aload_n (n := 119) 3 dX11_lots_118 rfl rfl ?_
      refine rs_cVv (n := 122) (rest := []) (As := []) vm_X11_remember gw_1294 so_129 cq_10 dX11_lots_119 rfl rfl (Nat.le_of_ble_eq_true rfl) rfl (CV.mono H (fun I24 X25 H => ?_))
      refine r_aload_n (n := 123) 3 dX11_lots_122 rfl rfl ?_
      refine r_iconst (n := 124) (v := 0) dX11_lots_123 ki_0 rfl ?_
      refine rs_cVv (n := 127) (rest := []) (As := [.int _]) vm_X11_passes gw_1332 so_129 cq_10 dX11_lots_124 rfl rfl (Nat.le_of_ble_eq_true rfl) rfl (CV.mono H (fun I26 X27 H => ?_))
      have H := H _ rfl
      refine r_iinc (n := 130) (lv' := [(5, .int _), (7, .int _), (6, .int _), (3, .long _), (0, .ref _), (1, .int _)]) 5 dX11_lots_127 rfl rfl (by decide) rfl rfl ?_
      refine r_goto (n := 55) dX11_lots_130 (by decide) ?_
      exact r_sub [4, 5, 3, 0] rfl H
set_option maxRecDepth 20000 in
theorem en_X11_counted {g : OG} {d : Nat} {I : IT} {X : XT} {K : Int32 → IT → XT → Prop} {l1 : Int32} 
    (H : SR g (d + 1) iX11_counted 4 [(0, rf g 129), (1, .int l1), (2, .int 0), (3, .int 0)] I X (qI K)) : CI g (d + 1) iX11_counted [rf g 129, .int l1] I X K := by
  refine ocall_of (by decide) (Nat.le_of_ble_eq_true rfl) ?_
  show SR g (d + 1) iX11_counted 0 [(0, rf g 129), (1, .int l1)] I X (qI K)
  refine r_iconst (n := 1) (v := 0) dX11_counted_0 ki_0 rfl ?_
  refine r_istore_n (n := 2) (lv' := [(2, .int _), (0, .ref _), (1, .int _)]) dX11_counted_1 rfl (by decide) rfl rfl ?_
  refine r_iconst (n := 3) (v := 0) dX11_counted_2 ki_0 rfl ?_
  refine r_istore_n (n := 4) (lv' := [(3, .int _), (2, .int _), (0, .ref _), (1, .int _)]) dX11_counted_3 rfl (by decide) rfl rfl ?_
  exact r_sub [2, 3, 1, 0] rfl H
set_option maxRecDepth 20000 in
theorem rg_X11_counted_4 {g : OG} {d : Nat} {I : IT} {X : XT} {K : Int32 → IT → XT → Prop} {l1 : Int32} {l2 : Int32} {l3 : Int32} 
    (H : ((I 129 10) ≤ l3 →
        SR g (d + 1) iX11_counted 67 [(0, rf g 129), (1, .int l1), (2, .int l2), (3, .int 0)] I X (qI K)) ∧
      (¬ (I 129 10) ≤ l3 →
        (¬ l1 = 4 →
          (¬ l1 = 5 →
            ∀ x1 : Int32, x1 = l2 + 0 →
            ∀ x2 : Int32, x2 = l3 + 1 →
            SR g (d + 1) iX11_counted 4 [(0, rf g 129), (1, .int l1), (2, .int x1), (3, .int x2)] I X (qI K)) ∧
          (l1 = 5 →
            vp_in l3 5 ∧
            ((I 137 l3.toNatClampNeg) = 1 →
              ∀ x4 : Int32, x4 = l2 + 1 →
              ∀ x5 : Int32, x5 = l3 + 1 →
              SR g (d + 1) iX11_counted 4 [(0, rf g 129), (1, .int l1), (2, .int x4), (3, .int x5)] I X (qI K)) ∧
            (¬ (I 137 l3.toNatClampNeg) = 1 →
              vp_in l3 5 ∧
              (¬ (I 137 l3.toNatClampNeg) = 4 →
                ∀ x7 : Int32, x7 = l2 + 0 →
                ∀ x8 : Int32, x8 = l3 + 1 →
                SR g (d + 1) iX11_counted 4 [(0, rf g 129), (1, .int l1), (2, .int x7), (3, .int x8)] I X (qI K)) ∧
              ((I 137 l3.toNatClampNeg) = 4 →
                ∀ x9 : Int32, x9 = l2 + 1 →
                ∀ x10 : Int32, x10 = l3 + 1 →
                SR g (d + 1) iX11_counted 4 [(0, rf g 129), (1, .int l1), (2, .int x9), (3, .int x10)] I X (qI K))))) ∧
        (l1 = 4 →
          vp_in l3 216 ∧
          ∀ x12 : Int32, x12 = l2 + (I 142 l3.toNatClampNeg) →
          ∀ x13 : Int32, x13 = l3 + 1 →
          SR g (d + 1) iX11_counted 4 [(0, rf g 129), (1, .int l1), (2, .int x12), (3, .int x13)] I X (qI K)))) : SR g (d + 1) iX11_counted 4 [(0, rf g 129), (1, .int l1), (2, .int l2), (3, .int l3)] I X (qI K) := by
  refine r_iload_n (n := 5) 3 dX11_counted_4 rfl rfl ?_
  refine r_aload_n (n := 6) 0 dX11_counted_5 rfl rfl ?_
  refine rs_getI (n := 9) cls_10 10 fi_10_10 so_129 gw_1036 dX11_counted_6 rfl ?_
  refine r_icmp_ge (n := 12) (tgt := 65) dX11_counted_9 (by decide) rfl (fun c => ?_) (fun c => ?_)
  · have H := H.1 c
    refine r_iconst (n := 66) (v := 0) dX11_counted_65 ki_0 rfl ?_
    refine r_istore_n (n := 67) (lv' := [(3, .int _), (0, .ref _), (1, .int _), (2, .int _)]) dX11_counted_66 rfl (by decide) rfl rfl ?_
    exact r_sub [1, 2, 3, 0] rfl H
  · have H := H.2 c
    refine r_iload_n (n := 13) 2 dX11_counted_12 rfl rfl ?_
    refine r_iload_n (n := 14) 1 dX11_counted_13 rfl rfl ?_
    refine r_iconst (n := 15) (v := 4) dX11_counted_14 ki_4 rfl ?_
    refine r_icmp_ne (n := 18) (tgt := 27) dX11_counted_15 (by decide) rfl (fun c => ?_) (fun c => ?_)
    · have H := H.1 c
      refine r_iload_n (n := 28) 1 dX11_counted_27 rfl rfl ?_
      refine r_iconst (n := 29) (v := 5) dX11_counted_28 ki_5 rfl ?_
      refine r_icmp_ne (n := 32) (tgt := 56) dX11_counted_29 (by decide) rfl (fun c => ?_) (fun c => ?_)
      · have H := H.1 c
        refine r_iconst (n := 57) (v := 0) dX11_counted_56 ki_0 rfl ?_
        refine r_iadd (n := 58) dX11_counted_57 rfl ?_
        have H := H _ rfl
        refine r_istore_n (n := 59) (lv' := [(2, .int _), (0, .ref _), (1, .int _), (3, .int _)]) dX11_counted_58 rfl (by decide) rfl rfl ?_
        have H := H _ rfl
        refine r_iinc (n := 62) (lv' := [(3, .int _), (2, .int _), (0, .ref _), (1, .int _)]) 3 dX11_counted_59 rfl rfl (by decide) rfl rfl ?_
        refine r_goto (n := 4) dX11_counted_62 (by decide) ?_
        exact r_sub [2, 3, 1, 0] rfl H
      · have H := H.2 c
        refine r_aload_n (n := 33) 0 dX11_counted_32 rfl rfl ?_
        refine r_getR (n := 36) cls_10 13 fi_10_13 so_129 gw_1039 dX11_counted_33 rfl sr_129_13 (by decide) ?_
        refine r_iload_n (n := 37) 3 dX11_counted_36 rfl rfl ?_
        obtain ⟨hi3, H⟩ := H
        refine rs_iald (n := 38) sa_137 hi3 dX11_counted_37 rfl ?_
        refine r_iconst (n := 39) (v := 1) dX11_counted_38 ki_1 rfl ?_
        refine r_icmp_eq (n := 42) (tgt := 52) dX11_counted_39 (by decide) rfl (fun c => ?_) (fun c => ?_)
        · have H := H.1 c
          refine r_iconst (n := 53) (v := 1) dX11_counted_52 ki_1 rfl ?_
          refine r_goto (n := 57) dX11_counted_53 (by decide) ?_
          refine r_iadd (n := 58) dX11_counted_57 rfl ?_
          have H := H _ rfl
          refine r_istore_n (n := 59) (lv' := [(2, .int _), (0, .ref _), (1, .int _), (3, .int _)]) dX11_counted_58 rfl (by decide) rfl rfl ?_
          have H := H _ rfl
          refine r_iinc (n := 62) (lv' := [(3, .int _), (2, .int _), (0, .ref _), (1, .int _)]) 3 dX11_counted_59 rfl rfl (by decide) rfl rfl ?_
          refine r_goto (n := 4) dX11_counted_62 (by decide) ?_
          exact r_sub [2, 3, 1, 0] rfl H
        · have H := H.2 c
          refine r_aload_n (n := 43) 0 dX11_counted_42 rfl rfl ?_
          refine r_getR (n := 46) cls_10 13 fi_10_13 so_129 gw_1039 dX11_counted_43 rfl sr_129_13 (by decide) ?_
          refine r_iload_n (n := 47) 3 dX11_counted_46 rfl rfl ?_
          obtain ⟨hi6, H⟩ := H
          refine rs_iald (n := 48) sa_137 hi6 dX11_counted_47 rfl ?_
          refine r_iconst (n := 49) (v := 4) dX11_counted_48 ki_4 rfl ?_
          refine r_icmp_ne (n := 52) (tgt := 56) dX11_counted_49 (by decide) rfl (fun c => ?_) (fun c => ?_)
          · have H := H.1 c
            refine r_iconst (n := 57) (v := 0) dX11_counted_56 ki_0 rfl ?_
            refine r_iadd (n := 58) dX11_counted_57 rfl ?_
            have H := H _ rfl
            refine r_istore_n (n := 59) (lv' := [(2, .int _), (0, .ref _), (1, .int _), (3, .int _)]) dX11_counted_58 rfl (by decide) rfl rfl ?_
            have H := H _ rfl
            refine r_iinc (n := 62) (lv' := [(3, .int _), (2, .int _), (0, .ref _), (1, .int _)]) 3 dX11_counted_59 rfl rfl (by decide) rfl rfl ?_
            refine r_goto (n := 4) dX11_counted_62 (by decide) ?_
            exact r_sub [2, 3, 1, 0] rfl H
          · have H := H.2 c
            refine r_iconst (n := 53) (v := 1) dX11_counted_52 ki_1 rfl ?_
            refine r_goto (n := 57) dX11_counted_53 (by decide) ?_
            refine r_iadd (n := 58) dX11_counted_57 rfl ?_
            have H := H _ rfl
            refine r_istore_n (n := 59) (lv' := [(2, .int _), (0, .ref _), (1, .int _), (3, .int _)]) dX11_counted_58 rfl (by decide) rfl rfl ?_
            have H := H _ rfl
            refine r_iinc (n := 62) (lv' := [(3, .int _), (2, .int _), (0, .ref _), (1, .int _)]) 3 dX11_counted_59 rfl rfl (by decide) rfl rfl ?_
            refine r_goto (n := 4) dX11_counted_62 (by decide) ?_
            exact r_sub [2, 3, 1, 0] rfl H
    · have H := H.2 c
      refine r_aload_n (n := 19) 0 dX11_counted_18 rfl rfl ?_
      refine r_getR (n := 22) cls_10 21 fi_10_21 so_129 gw_1047 dX11_counted_19 rfl sr_129_21 (by decide) ?_
      refine r_iload_n (n := 23) 3 dX11_counted_22 rfl rfl ?_
      obtain ⟨hi11, H⟩ := H
      refine rs_iald (n := 24) sa_142 hi11 dX11_counted_23 rfl ?_
      refine r_goto (n := 57) dX11_counted_24 (by decide) ?_
      refine r_iadd (n := 58) dX11_counted_57 rfl ?_
      have H := H _ rfl
      refine r_istore_n (n := 59) (lv' := [(2, .int _), (0, .ref _), (1, .int _), (3, .int _)]) dX11_counted_58 rfl (by decide) rfl rfl ?_
      have H := H _ rfl
      refine r_iinc (n := 62) (lv' := [(3, .int _), (2, .int _), (0, .ref _), (1, .int _)]) 3 dX11_counted_59 rfl rfl (by decide) rfl rfl ?_
      refine r_goto (n := 4) dX11_counted_62 (by decide) ?_
      exact r_sub [2, 3, 1, 0] rfl H
set_option maxRecDepth 20000 in
theorem rg_X11_counted_67 {g : OG} {d : Nat} {I : IT} {X : XT} {K : Int32 → IT → XT → Prop} {l1 : Int32} {l2 : Int32} {l3 : Int32} 
    (H : (6 ≤ l3 →
        SR g (d + 1) iX11_counted 104 [(0, rf g 129), (1, .int l1), (2, .int l2), (3, .int 0)] I X (qI K)) ∧
      (¬ 6 ≤ l3 →
        (¬ l1 = 6 →
          ∀ x1 : Int32, x1 = l2 + 0 →
          ∀ x2 : Int32, x2 = l3 + 1 →
          SR g (d + 1) iX11_counted 67 [(0, rf g 129), (1, .int l1), (2, .int x1), (3, .int x2)] I X (qI K)) ∧
        (l1 = 6 →
          vp_in l3 6 ∧
          ((I 131 l3.toNatClampNeg) < 0 →
            ∀ x4 : Int32, x4 = l2 + 0 →
            ∀ x5 : Int32, x5 = l3 + 1 →
            SR g (d + 1) iX11_counted 67 [(0, rf g 129), (1, .int l1), (2, .int x4), (3, .int x5)] I X (qI K)) ∧
          (¬ (I 131 l3.toNatClampNeg) < 0 →
            ∀ x6 : Int32, x6 = l2 + 1 →
            ∀ x7 : Int32, x7 = l3 + 1 →
            SR g (d + 1) iX11_counted 67 [(0, rf g 129), (1, .int l1), (2, .int x6), (3, .int x7)] I X (qI K))))) : SR g (d + 1) iX11_counted 67 [(0, rf g 129), (1, .int l1), (2, .int l2), (3, .int l3)] I X (qI K) := by
  refine r_iload_n (n := 68) 3 dX11_counted_67 rfl rfl ?_
  refine r_bipush (n := 70) (v := 6) dX11_counted_68 kb_6 rfl ?_
  refine r_icmp_ge (n := 73) (tgt := 102) dX11_counted_70 (by decide) rfl (fun c => ?_) (fun c => ?_)
  · have H := H.1 c
    refine r_iconst (n := 103) (v := 0) dX11_counted_102 ki_0 rfl ?_
    refine r_istore_n (n := 104) (lv' := [(3, .int _), (0, .ref _), (1, .int _), (2, .int _)]) dX11_counted_103 rfl (by decide) rfl rfl ?_
    exact r_sub [1, 2, 3, 0] rfl H
  · have H := H.2 c
    refine r_iload_n (n := 74) 2 dX11_counted_73 rfl rfl ?_
    refine r_iload_n (n := 75) 1 dX11_counted_74 rfl rfl ?_
    refine r_bipush (n := 77) (v := 6) dX11_counted_75 kb_6 rfl ?_
    refine r_icmp_ne (n := 80) (tgt := 93) dX11_counted_77 (by decide) rfl (fun c => ?_) (fun c => ?_)
    · have H := H.1 c
      refine r_iconst (n := 94) (v := 0) dX11_counted_93 ki_0 rfl ?_
      refine r_iadd (n := 95) dX11_counted_94 rfl ?_
      have H := H _ rfl
      refine r_istore_n (n := 96) (lv' := [(2, .int _), (0, .ref _), (1, .int _), (3, .int _)]) dX11_counted_95 rfl (by decide) rfl rfl ?_
      have H := H _ rfl
      refine r_iinc (n := 99) (lv' := [(3, .int _), (2, .int _), (0, .ref _), (1, .int _)]) 3 dX11_counted_96 rfl rfl (by decide) rfl rfl ?_
      refine r_goto (n := 67) dX11_counted_99 (by decide) ?_
      exact r_sub [2, 3, 1, 0] rfl H
    · have H := H.2 c
      refine r_aload_n (n := 81) 0 dX11_counted_80 rfl rfl ?_
      refine r_getR (n := 84) cls_10 5 fi_10_5 so_129 gw_1031 dX11_counted_81 rfl sr_129_5 (by decide) ?_
      refine r_iload_n (n := 85) 3 dX11_counted_84 rfl rfl ?_
      obtain ⟨hi3, H⟩ := H
      refine rs_iald (n := 86) sa_131 hi3 dX11_counted_85 rfl ?_
      refine r_if_lt (n := 89) (tgt := 93) dX11_counted_86 (by decide) rfl (fun c => ?_) (fun c => ?_)
      · have H := H.1 c
        refine r_iconst (n := 94) (v := 0) dX11_counted_93 ki_0 rfl ?_
        refine r_iadd (n := 95) dX11_counted_94 rfl ?_
        have H := H _ rfl
        refine r_istore_n (n := 96) (lv' := [(2, .int _), (0, .ref _), (1, .int _), (3, .int _)]) dX11_counted_95 rfl (by decide) rfl rfl ?_
        have H := H _ rfl
        refine r_iinc (n := 99) (lv' := [(3, .int _), (2, .int _), (0, .ref _), (1, .int _)]) 3 dX11_counted_96 rfl rfl (by decide) rfl rfl ?_
        refine r_goto (n := 67) dX11_counted_99 (by decide) ?_
        exact r_sub [2, 3, 1, 0] rfl H
      · have H := H.2 c
        refine r_iconst (n := 90) (v := 1) dX11_counted_89 ki_1 rfl ?_
        refine r_goto (n := 94) dX11_counted_90 (by decide) ?_
        refine r_iadd (n := 95) dX11_counted_94 rfl ?_
        have H := H _ rfl
        refine r_istore_n (n := 96) (lv' := [(2, .int _), (0, .ref _), (1, .int _), (3, .int _)]) dX11_counted_95 rfl (by decide) rfl rfl ?_
        have H := H _ rfl
        refine r_iinc (n := 99) (lv' := [(3, .int _), (2, .int _), (0, .ref _), (1, .int _)]) 3 dX11_counted_96 rfl rfl (by decide) rfl rfl ?_
        refine r_goto (n := 67) dX11_counted_99 (by decide) ?_
        exact r_sub [2, 3, 1, 0] rfl H
set_option maxRecDepth 20000 in
theorem rg_X11_counted_104 {g : OG} {d : Nat} {I : IT} {X : XT} {K : Int32 → IT → XT → Prop} {l1 : Int32} {l2 : Int32} {l3 : Int32} 
    (H : (4 ≤ l3 →
        SR g (d + 1) iX11_counted 140 [(0, rf g 129), (1, .int l1), (2, .int l2), (3, .int 0)] I X (qI K)) ∧
      (¬ 4 ≤ l3 →
        (¬ l1 = 7 →
          ∀ x1 : Int32, x1 = l2 + 0 →
          ∀ x2 : Int32, x2 = l3 + 1 →
          SR g (d + 1) iX11_counted 104 [(0, rf g 129), (1, .int l1), (2, .int x1), (3, .int x2)] I X (qI K)) ∧
        (l1 = 7 →
          vp_in l3 4 ∧
          ((I 134 l3.toNatClampNeg) < 0 →
            ∀ x4 : Int32, x4 = l2 + 0 →
            ∀ x5 : Int32, x5 = l3 + 1 →
            SR g (d + 1) iX11_counted 104 [(0, rf g 129), (1, .int l1), (2, .int x4), (3, .int x5)] I X (qI K)) ∧
          (¬ (I 134 l3.toNatClampNeg) < 0 →
            ∀ x6 : Int32, x6 = l2 + 1 →
            ∀ x7 : Int32, x7 = l3 + 1 →
            SR g (d + 1) iX11_counted 104 [(0, rf g 129), (1, .int l1), (2, .int x6), (3, .int x7)] I X (qI K))))) : SR g (d + 1) iX11_counted 104 [(0, rf g 129), (1, .int l1), (2, .int l2), (3, .int l3)] I X (qI K) := by
  refine r_iload_n (n := 105) 3 dX11_counted_104 rfl rfl ?_
  refine r_iconst (n := 106) (v := 4) dX11_counted_105 ki_4 rfl ?_
  refine r_icmp_ge (n := 109) (tgt := 138) dX11_counted_106 (by decide) rfl (fun c => ?_) (fun c => ?_)
  · have H := H.1 c
    refine r_iconst (n := 139) (v := 0) dX11_counted_138 ki_0 rfl ?_
    refine r_istore_n (n := 140) (lv' := [(3, .int _), (0, .ref _), (1, .int _), (2, .int _)]) dX11_counted_139 rfl (by decide) rfl rfl ?_
    exact r_sub [1, 2, 3, 0] rfl H
  · have H := H.2 c
    refine r_iload_n (n := 110) 2 dX11_counted_109 rfl rfl ?_
    refine r_iload_n (n := 111) 1 dX11_counted_110 rfl rfl ?_
    refine r_bipush (n := 113) (v := 7) dX11_counted_111 kb_7 rfl ?_
    refine r_icmp_ne (n := 116) (tgt := 129) dX11_counted_113 (by decide) rfl (fun c => ?_) (fun c => ?_)
    · have H := H.1 c
      refine r_iconst (n := 130) (v := 0) dX11_counted_129 ki_0 rfl ?_
      refine r_iadd (n := 131) dX11_counted_130 rfl ?_
      have H := H _ rfl
      refine r_istore_n (n := 132) (lv' := [(2, .int _), (0, .ref _), (1, .int _), (3, .int _)]) dX11_counted_131 rfl (by decide) rfl rfl ?_
      have H := H _ rfl
      refine r_iinc (n := 135) (lv' := [(3, .int _), (2, .int _), (0, .ref _), (1, .int _)]) 3 dX11_counted_132 rfl rfl (by decide) rfl rfl ?_
      refine r_goto (n := 104) dX11_counted_135 (by decide) ?_
      exact r_sub [2, 3, 1, 0] rfl H
    · have H := H.2 c
      refine r_aload_n (n := 117) 0 dX11_counted_116 rfl rfl ?_
      refine r_getR (n := 120) cls_10 8 fi_10_8 so_129 gw_1034 dX11_counted_117 rfl sr_129_8 (by decide) ?_
      refine r_iload_n (n := 121) 3 dX11_counted_120 rfl rfl ?_
      obtain ⟨hi3, H⟩ := H
      refine rs_iald (n := 122) sa_134 hi3 dX11_counted_121 rfl ?_
      refine r_if_lt (n := 125) (tgt := 129) dX11_counted_122 (by decide) rfl (fun c => ?_) (fun c => ?_)
      · have H := H.1 c
        refine r_iconst (n := 130) (v := 0) dX11_counted_129 ki_0 rfl ?_
        refine r_iadd (n := 131) dX11_counted_130 rfl ?_
        have H := H _ rfl
        refine r_istore_n (n := 132) (lv' := [(2, .int _), (0, .ref _), (1, .int _), (3, .int _)]) dX11_counted_131 rfl (by decide) rfl rfl ?_
        have H := H _ rfl
        refine r_iinc (n := 135) (lv' := [(3, .int _), (2, .int _), (0, .ref _), (1, .int _)]) 3 dX11_counted_132 rfl rfl (by decide) rfl rfl ?_
        refine r_goto (n := 104) dX11_counted_135 (by decide) ?_
        exact r_sub [2, 3, 1, 0] rfl H
      · have H := H.2 c
        refine r_iconst (n := 126) (v := 1) dX11_counted_125 ki_1 rfl ?_
        refine r_goto (n := 130) dX11_counted_126 (by decide) ?_
        refine r_iadd (n := 131) dX11_counted_130 rfl ?_
        have H := H _ rfl
        refine r_istore_n (n := 132) (lv' := [(2, .int _), (0, .ref _), (1, .int _), (3, .int _)]) dX11_counted_131 rfl (by decide) rfl rfl ?_
        have H := H _ rfl
        refine r_iinc (n := 135) (lv' := [(3, .int _), (2, .int _), (0, .ref _), (1, .int _)]) 3 dX11_counted_132 rfl rfl (by decide) rfl rfl ?_
        refine r_goto (n := 104) dX11_counted_135 (by decide) ?_
        exact r_sub [2, 3, 1, 0] rfl H
set_option maxRecDepth 20000 in
theorem rg_X11_counted_140 {g : OG} {d : Nat} {I : IT} {X : XT} {K : Int32 → IT → XT → Prop} {l1 : Int32} {l2 : Int32} {l3 : Int32} 
    (H : (3 ≤ l3 →
        (l1 = 0 →
          K (I 129 10) I X) ∧
        (¬ l1 = 0 →
          (l1 = 1 →
          vp_in 15 216 ∧
          K (I 142 (15 : Int32).toNatClampNeg) I X) ∧
        (¬ l1 = 1 →
          (l1 = 2 →
          vp_in 16 216 ∧
          K (I 142 (16 : Int32).toNatClampNeg) I X) ∧
        (¬ l1 = 2 →
          (l1 = 3 →
          K (I 129 22) I X) ∧
        (¬ l1 = 3 →
          K l2 I X))))) ∧
      (¬ 3 ≤ l3 →
        (¬ l1 = 8 →
          ∀ x7 : Int32, x7 = l2 + 0 →
          ∀ x8 : Int32, x8 = l3 + 1 →
          SR g (d + 1) iX11_counted 140 [(0, rf g 129), (1, .int l1), (2, .int x7), (3, .int x8)] I X (qI K)) ∧
        (l1 = 8 →
          vp_in l3 3 ∧
          ((I 144 l3.toNatClampNeg) = 0 →
            ∀ x10 : Int32, x10 = l2 + 0 →
            ∀ x11 : Int32, x11 = l3 + 1 →
            SR g (d + 1) iX11_counted 140 [(0, rf g 129), (1, .int l1), (2, .int x10), (3, .int x11)] I X (qI K)) ∧
          (¬ (I 144 l3.toNatClampNeg) = 0 →
            ∀ x12 : Int32, x12 = l2 + 1 →
            ∀ x13 : Int32, x13 = l3 + 1 →
            SR g (d + 1) iX11_counted 140 [(0, rf g 129), (1, .int l1), (2, .int x12), (3, .int x13)] I X (qI K))))) : SR g (d + 1) iX11_counted 140 [(0, rf g 129), (1, .int l1), (2, .int l2), (3, .int l3)] I X (qI K) := by
  refine r_iload_n (n := 141) 3 dX11_counted_140 rfl rfl ?_
  refine r_iconst (n := 142) (v := 3) dX11_counted_141 ki_3 rfl ?_
  refine r_icmp_ge (n := 145) (tgt := 174) dX11_counted_142 (by decide) rfl (fun c => ?_) (fun c => ?_)
  · have H := H.1 c
    refine r_iload_n (n := 175) 1 dX11_counted_174 rfl rfl ?_
    refine sw_split H (fun cs1 H => ?_) (fun cs1 H => ?_)
    · refine r_tcase (n := 204) (v := 0) (off := 29) dX11_counted_175 cs1 (by decide) (by decide) (by decide) ?_
      refine r_aload_n (n := 205) 0 dX11_counted_204 rfl rfl ?_
      refine rs_getI (n := 208) cls_10 10 fi_10_10 so_129 gw_1036 dX11_counted_205 rfl ?_
      exact rs_iret dX11_counted_208 rfl H
    · skip
      refine sw_split H (fun cs2 H => ?_) (fun cs2 H => ?_)
      · refine r_tcase (n := 209) (v := 1) (off := 34) dX11_counted_175 cs2 (by decide) (by decide) (by decide) ?_
        refine r_aload_n (n := 210) 0 dX11_counted_209 rfl rfl ?_
        refine r_getR (n := 213) cls_10 21 fi_10_21 so_129 gw_1047 dX11_counted_210 rfl sr_129_21 (by decide) ?_
        refine r_bipush (n := 215) (v := 15) dX11_counted_213 kb_15 rfl ?_
        obtain ⟨hi3, H⟩ := H
        refine rs_iald (n := 216) sa_142 hi3 dX11_counted_215 rfl ?_
        exact rs_iret dX11_counted_216 rfl H
      · skip
        refine sw_split H (fun cs4 H => ?_) (fun cs4 H => ?_)
        · refine r_tcase (n := 217) (v := 2) (off := 42) dX11_counted_175 cs4 (by decide) (by decide) (by decide) ?_
          refine r_aload_n (n := 218) 0 dX11_counted_217 rfl rfl ?_
          refine r_getR (n := 221) cls_10 21 fi_10_21 so_129 gw_1047 dX11_counted_218 rfl sr_129_21 (by decide) ?_
          refine r_bipush (n := 223) (v := 16) dX11_counted_221 kb_16 rfl ?_
          obtain ⟨hi5, H⟩ := H
          refine rs_iald (n := 224) sa_142 hi5 dX11_counted_223 rfl ?_
          exact rs_iret dX11_counted_224 rfl H
        · skip
          refine sw_split H (fun cs6 H => ?_) (fun cs6 H => ?_)
          · refine r_tcase (n := 225) (v := 3) (off := 50) dX11_counted_175 cs6 (by decide) (by decide) (by decide) ?_
            refine r_aload_n (n := 226) 0 dX11_counted_225 rfl rfl ?_
            refine rs_getI (n := 229) cls_10 22 fi_10_22 so_129 gw_1048 dX11_counted_226 rfl ?_
            exact rs_iret dX11_counted_229 rfl H
          · skip
            refine r_tout (n := 230) dX11_counted_175 (by have e0 := lv_neT cs1 (a := 0) (by decide); have e1 := lv_neT cs2 (a := 1) (by decide); have e2 := lv_neT cs4 (a := 2) (by decide); have e3 := lv_neT cs6 (a := 3) (by decide); omega) (by decide) ?_
            refine r_iload_n (n := 231) 2 dX11_counted_230 rfl rfl ?_
            exact rs_iret dX11_counted_231 rfl H
  · have H := H.2 c
    refine r_iload_n (n := 146) 2 dX11_counted_145 rfl rfl ?_
    refine r_iload_n (n := 147) 1 dX11_counted_146 rfl rfl ?_
    refine r_bipush (n := 149) (v := 8) dX11_counted_147 kb_8 rfl ?_
    refine r_icmp_ne (n := 152) (tgt := 165) dX11_counted_149 (by decide) rfl (fun c => ?_) (fun c => ?_)
    · have H := H.1 c
      refine r_iconst (n := 166) (v := 0) dX11_counted_165 ki_0 rfl ?_
      refine r_iadd (n := 167) dX11_counted_166 rfl ?_
      have H := H _ rfl
      refine r_istore_n (n := 168) (lv' := [(2, .int _), (0, .ref _), (1, .int _), (3, .int _)]) dX11_counted_167 rfl (by decide) rfl rfl ?_
      have H := H _ rfl
      refine r_iinc (n := 171) (lv' := [(3, .int _), (2, .int _), (0, .ref _), (1, .int _)]) 3 dX11_counted_168 rfl rfl (by decide) rfl rfl ?_
      refine r_goto (n := 140) dX11_counted_171 (by decide) ?_
      exact r_sub [2, 3, 1, 0] rfl H
    · have H := H.2 c
      refine r_aload_n (n := 153) 0 dX11_counted_152 rfl rfl ?_
      refine r_getR (n := 156) cls_10 24 fi_10_24 so_129 gw_1050 dX11_counted_153 rfl sr_129_24 (by decide) ?_
      refine r_iload_n (n := 157) 3 dX11_counted_156 rfl rfl ?_
      obtain ⟨hi9, H⟩ := H
      refine rs_zald (n := 158) sa_144 hi9 dX11_counted_157 rfl ?_
      refine r_if_eq (n := 161) (tgt := 165) dX11_counted_158 (by decide) rfl (fun c => ?_) (fun c => ?_)
      · have H := H.1 c
        refine r_iconst (n := 166) (v := 0) dX11_counted_165 ki_0 rfl ?_
        refine r_iadd (n := 167) dX11_counted_166 rfl ?_
        have H := H _ rfl
        refine r_istore_n (n := 168) (lv' := [(2, .int _), (0, .ref _), (1, .int _), (3, .int _)]) dX11_counted_167 rfl (by decide) rfl rfl ?_
        have H := H _ rfl
        refine r_iinc (n := 171) (lv' := [(3, .int _), (2, .int _), (0, .ref _), (1, .int _)]) 3 dX11_counted_168 rfl rfl (by decide) rfl rfl ?_
        refine r_goto (n := 140) dX11_counted_171 (by decide) ?_
        exact r_sub [2, 3, 1, 0] rfl H
      · have H := H.2 c
        refine r_iconst (n := 162) (v := 1) dX11_counted_161 ki_1 rfl ?_
        refine r_goto (n := 166) dX11_counted_162 (by decide) ?_
        refine r_iadd (n := 167) dX11_counted_166 rfl ?_
        have H := H _ rfl
        refine r_istore_n (n := 168) (lv' := [(2, .int _), (0, .ref _), (1, .int _), (3, .int _)]) dX11_counted_167 rfl (by decide) rfl rfl ?_
        have H := H _ rfl
        refine r_iinc (n := 171) (lv' := [(3, .int _), (2, .int _), (0, .ref _), (1, .int _)]) 3 dX11_counted_168 rfl rfl (by decide) rfl rfl ?_
        refine r_goto (n := 140) dX11_counted_171 (by decide) ?_
        exact r_sub [2, 3, 1, 0] rfl H
set_option maxRecDepth 20000 in
theorem en_X11_count {g : OG} {d : Nat} {I : IT} {X : XT} {K : Int32 → IT → XT → Prop} {l1 : Int32} 
    (H : CI g d iX11_in [.int l1, .int 0, .int 8] I X (fun r1 I2 X3 =>
        (r1 = 0 →
          K ((-1)) I2 X3) ∧
        (¬ r1 = 0 →
          CI g d iX11_counted [rf g 129, .int l1] I2 X3 (fun r4 I5 X6 =>
            K r4 I5 X6)))) : CI g (d + 1) iX11_count [rf g 129, .int l1] I X K := by
  refine ocall_of (by decide) (Nat.le_of_ble_eq_true rfl) ?_
  show SR g (d + 1) iX11_count 0 [(0, rf g 129), (1, .int l1)] I X (qI K)
  refine r_iload_n (n := 1) 1 dX11_count_0 rfl rfl ?_
  refine r_iconst (n := 2) (v := 0) dX11_count_1 ki_0 rfl ?_
  refine r_bipush (n := 4) (v := 8) dX11_count_2 kb_8 rfl ?_
  refine rs_cSi (n := 7) (rest := []) (As := [.int _, .int _, .int _]) sm_X11_in gw_1150 dX11_count_4 rfl rfl (Nat.le_of_ble_eq_true rfl) rfl (CI.mono H (fun r1 I2 X3 H => ?_))
  refine r_if_eq (n := 10) (tgt := 18) dX11_count_7 (by decide) rfl (fun c => ?_) (fun c => ?_)
  · have H := H.1 c
    refine r_iconst (n := 19) (v := (-1)) dX11_count_18 ki_m1 rfl ?_
    exact rs_iret dX11_count_19 rfl H
  · have H := H.2 c
    refine r_aload_n (n := 11) 0 dX11_count_10 rfl rfl ?_
    refine r_iload_n (n := 12) 1 dX11_count_11 rfl rfl ?_
    refine rs_cVi (n := 15) (rest := []) (As := [.int _]) vm_X11_counted gw_1503 so_129 cq_10 dX11_count_12 rfl rfl (Nat.le_of_ble_eq_true rfl) rfl (CI.mono H (fun r4 I5 X6 H => ?_))
    refine r_goto (n := 19) dX11_count_15 (by decide) ?_
    exact rs_iret dX11_count_19 rfl H
set_option maxRecDepth 20000 in
theorem en_X11_mix {g : OG} {d : Nat} {I : IT} {X : XT} {K : IT → XT → Prop} {l1 : Int64} 
    (H : ∀ X1 : XT, X1 = (set2L X.1 129 37 ((31 * (X.1 129 37)) + l1), X.2) →
      K I X1) : CV g (d + 1) iX11_mix [rf g 129, .long l1] I X K := by
  refine ocall_of (by decide) (Nat.le_of_ble_eq_true rfl) ?_
  show SR g (d + 1) iX11_mix 0 [(0, rf g 129), (1, .long l1)] I X (qV K)
  refine r_aload_n (n := 1) 0 dX11_mix_0 rfl rfl ?_
  refine r_ldc2 (n := 4) (v := 31) dX11_mix_1 gw_1516 rfl ?_
  refine r_aload_n (n := 5) 0 dX11_mix_4 rfl rfl ?_
  refine rs_getL (n := 8) cls_10 37 fi_10_37 so_129 gw_1063 dX11_mix_5 rfl ?_
  refine r_lmul (n := 9) dX11_mix_8 rfl ?_
  refine r_lload_n (n := 10) 1 dX11_mix_9 rfl rfl ?_
  refine r_ladd (n := 11) dX11_mix_10 rfl ?_
  have H := H _ rfl
  refine rs_putL (n := 14) cls_10 37 fp_10_37 so_129 gw_1063 dX11_mix_11 rfl ?_
  exact rs_vret dX11_mix_14 rfl H
set_option maxRecDepth 20000 in
theorem en_X11_mixVillage {g : OG} {d : Nat} {I : IT} {X : XT} {K : IT → XT → Prop}  
    (H : SR g (d + 1) iX11_mixVillage 2 [(0, rf g 129), (1, .int 0)] I X (qV K)) : CV g (d + 1) iX11_mixVillage [rf g 129] I X K := by
  refine ocall_of (by decide) (Nat.le_of_ble_eq_true rfl) ?_
  show SR g (d + 1) iX11_mixVillage 0 [(0, rf g 129)] I X (qV K)
  refine r_iconst (n := 1) (v := 0) dX11_mixVillage_0 ki_0 rfl ?_
  refine r_istore_n (n := 2) (lv' := [(1, .int _), (0, .ref _)]) dX11_mixVillage_1 rfl (by decide) rfl rfl ?_
  exact r_sub [1, 0] rfl H
set_option maxRecDepth 20000 in
theorem rg_X11_mixVillage_2 {g : OG} {d : Nat} {I : IT} {X : XT} {K : IT → XT → Prop} {l1 : Int32} 
    (H : ((I 129 10) ≤ l1 →
        SR g (d + 1) iX11_mixVillage 43 [(0, rf g 129), (1, .int 0)] I X (qV K)) ∧
      (¬ (I 129 10) ≤ l1 →
        SR g (d + 1) iX11_mixVillage 12 [(0, rf g 129), (1, .int l1), (2, .int 0)] I X (qV K))) : SR g (d + 1) iX11_mixVillage 2 [(0, rf g 129), (1, .int l1)] I X (qV K) := by
  refine r_iload_n (n := 3) 1 dX11_mixVillage_2 rfl rfl ?_
  refine r_aload_n (n := 4) 0 dX11_mixVillage_3 rfl rfl ?_
  refine rs_getI (n := 7) cls_10 10 fi_10_10 so_129 gw_1036 dX11_mixVillage_4 rfl ?_
  refine r_icmp_ge (n := 10) (tgt := 41) dX11_mixVillage_7 (by decide) rfl (fun c => ?_) (fun c => ?_)
  · have H := H.1 c
    refine r_iconst (n := 42) (v := 0) dX11_mixVillage_41 ki_0 rfl ?_
    refine r_istore_n (n := 43) (lv' := [(1, .int _), (0, .ref _)]) dX11_mixVillage_42 rfl (by decide) rfl rfl ?_
    exact r_sub [1, 0] rfl H
  · have H := H.2 c
    refine r_iconst (n := 11) (v := 0) dX11_mixVillage_10 ki_0 rfl ?_
    refine r_istore_n (n := 12) (lv' := [(2, .int _), (0, .ref _), (1, .int _)]) dX11_mixVillage_11 rfl (by decide) rfl rfl ?_
    exact r_sub [1, 2, 0] rfl H
set_option maxRecDepth 20000 in
theorem rg_X11_mixVillage_43 {g : OG} {d : Nat} {I : IT} {X : XT} {K : IT → XT → Prop} {l1 : Int32} 
    (H : (3 ≤ l1 →
        K I X) ∧
      (¬ 3 ≤ l1 →
        vp_in l1 3 ∧
        ((I 144 l1.toNatClampNeg) = 0 →
          CV g d iX11_mix [rf g 129, .long ((-1))] I X (fun I2 X3 =>
            ∀ x4 : Int32, x4 = l1 + 1 →
            SR g (d + 1) iX11_mixVillage 43 [(0, rf g 129), (1, .int x4)] I2 X3 (qV K))) ∧
        (¬ (I 144 l1.toNatClampNeg) = 0 →
          vp_in l1 3 ∧
          CV g d iX11_mix [rf g 129, .long ((I 145 l1.toNatClampNeg).toInt64)] I X (fun I6 X7 =>
            ∀ x8 : Int32, x8 = l1 + 1 →
            SR g (d + 1) iX11_mixVillage 43 [(0, rf g 129), (1, .int x8)] I6 X7 (qV K))))) : SR g (d + 1) iX11_mixVillage 43 [(0, rf g 129), (1, .int l1)] I X (qV K) := by
  refine r_iload_n (n := 44) 1 dX11_mixVillage_43 rfl rfl ?_
  refine r_iconst (n := 45) (v := 3) dX11_mixVillage_44 ki_3 rfl ?_
  refine r_icmp_ge (n := 48) (tgt := 80) dX11_mixVillage_45 (by decide) rfl (fun c => ?_) (fun c => ?_)
  · have H := H.1 c
    exact rs_vret dX11_mixVillage_80 rfl H
  · have H := H.2 c
    refine r_aload_n (n := 49) 0 dX11_mixVillage_48 rfl rfl ?_
    refine r_aload_n (n := 50) 0 dX11_mixVillage_49 rfl rfl ?_
    refine r_getR (n := 53) cls_10 24 fi_10_24 so_129 gw_1050 dX11_mixVillage_50 rfl sr_129_24 (by decide) ?_
    refine r_iload_n (n := 54) 1 dX11_mixVillage_53 rfl rfl ?_
    obtain ⟨hi1, H⟩ := H
    refine rs_zald (n := 55) sa_144 hi1 dX11_mixVillage_54 rfl ?_
    refine r_if_eq (n := 58) (tgt := 68) dX11_mixVillage_55 (by decide) rfl (fun c => ?_) (fun c => ?_)
    · have H := H.1 c
      refine r_ldc2 (n := 71) (v := (-1)) dX11_mixVillage_68 gw_1521 rfl ?_
      refine rs_cVv (n := 74) (rest := []) (As := [.long _]) vm_X11_mix gw_1512 so_129 cq_10 dX11_mixVillage_71 rfl rfl (Nat.le_of_ble_eq_true rfl) rfl (CV.mono H (fun I2 X3 H => ?_))
      have H := H _ rfl
      refine r_iinc (n := 77) (lv' := [(1, .int _), (0, .ref _)]) 1 dX11_mixVillage_74 rfl rfl (by decide) rfl rfl ?_
      refine r_goto (n := 43) dX11_mixVillage_77 (by decide) ?_
      exact r_sub [1, 0] rfl H
    · have H := H.2 c
      refine r_aload_n (n := 59) 0 dX11_mixVillage_58 rfl rfl ?_
      refine r_getR (n := 62) cls_10 25 fi_10_25 so_129 gw_1051 dX11_mixVillage_59 rfl sr_129_25 (by decide) ?_
      refine r_iload_n (n := 63) 1 dX11_mixVillage_62 rfl rfl ?_
      obtain ⟨hi5, H⟩ := H
      refine rs_iald (n := 64) sa_145 hi5 dX11_mixVillage_63 rfl ?_
      refine r_i2l (n := 65) dX11_mixVillage_64 rfl ?_
      refine r_goto (n := 71) dX11_mixVillage_65 (by decide) ?_
      refine rs_cVv (n := 74) (rest := []) (As := [.long _]) vm_X11_mix gw_1512 so_129 cq_10 dX11_mixVillage_71 rfl rfl (Nat.le_of_ble_eq_true rfl) rfl (CV.mono H (fun I6 X7 H => ?_))
      have H := H _ rfl
      refine r_iinc (n := 77) (lv' := [(1, .int _), (0, .ref _)]) 1 dX11_mixVillage_74 rfl rfl (by decide) rfl rfl ?_
      refine r_goto (n := 43) dX11_mixVillage_77 (by decide) ?_
      exact r_sub [1, 0] rfl H
set_option maxRecDepth 20000 in
theorem rg_X11_mixVillage_12 {g : OG} {d : Nat} {I : IT} {X : XT} {K : IT → XT → Prop} {l1 : Int32} {l2 : Int32} 
    (H : (6 ≤ l2 →
        ∀ x1 : Int32, x1 = l1 + 1 →
        SR g (d + 1) iX11_mixVillage 2 [(0, rf g 129), (1, .int x1)] I X (qV K)) ∧
      (¬ 6 ≤ l2 →
        CI g d iX11_houseTells [rf g 129, .int l1, .int l2] I X (fun r2 I3 X4 =>
          CV g d iX11_mix [rf g 129, .long r2.toInt64] I3 X4 (fun I5 X6 =>
            ∀ x7 : Int32, x7 = l2 + 1 →
            SR g (d + 1) iX11_mixVillage 12 [(0, rf g 129), (1, .int l1), (2, .int x7)] I5 X6 (qV K))))) : SR g (d + 1) iX11_mixVillage 12 [(0, rf g 129), (1, .int l1), (2, .int l2)] I X (qV K) := by
  refine r_iload_n (n := 13) 2 dX11_mixVillage_12 rfl rfl ?_
  refine r_bipush (n := 15) (v := 6) dX11_mixVillage_13 kb_6 rfl ?_
  refine r_icmp_ge (n := 18) (tgt := 35) dX11_mixVillage_15 (by decide) rfl (fun c => ?_) (fun c => ?_)
  · have H := H.1 c
    have H := H _ rfl
    refine r_iinc (n := 38) (lv' := [(1, .int _), (0, .ref _), (2, .int _)]) 1 dX11_mixVillage_35 rfl rfl (by decide) rfl rfl ?_
    refine r_goto (n := 2) dX11_mixVillage_38 (by decide) ?_
    exact r_sub [1, 0] rfl H
  · have H := H.2 c
    refine r_aload_n (n := 19) 0 dX11_mixVillage_18 rfl rfl ?_
    refine r_aload_n (n := 20) 0 dX11_mixVillage_19 rfl rfl ?_
    refine r_iload_n (n := 21) 1 dX11_mixVillage_20 rfl rfl ?_
    refine r_iload_n (n := 22) 2 dX11_mixVillage_21 rfl rfl ?_
    refine rs_cVi (n := 25) (rest := [.ref _]) (As := [.int _, .int _]) vm_X11_houseTells gw_1254 so_129 cq_10 dX11_mixVillage_22 rfl rfl (Nat.le_of_ble_eq_true rfl) rfl (CI.mono H (fun r2 I3 X4 H => ?_))
    refine r_i2l (n := 26) dX11_mixVillage_25 rfl ?_
    refine rs_cVv (n := 29) (rest := []) (As := [.long _]) vm_X11_mix gw_1512 so_129 cq_10 dX11_mixVillage_26 rfl rfl (Nat.le_of_ble_eq_true rfl) rfl (CV.mono H (fun I5 X6 H => ?_))
    have H := H _ rfl
    refine r_iinc (n := 32) (lv' := [(2, .int _), (0, .ref _), (1, .int _)]) 2 dX11_mixVillage_29 rfl rfl (by decide) rfl rfl ?_
    refine r_goto (n := 12) dX11_mixVillage_32 (by decide) ?_
    exact r_sub [1, 2, 0] rfl H
set_option maxRecDepth 20000 in
theorem en_X11_digest {g : OG} {d : Nat} {I : IT} {X : XT} {K : Int64 → IT → XT → Prop}  
    (H : ∀ X1 : XT, X1 = (set2L X.1 129 37 17, X.2) →
      SR g (d + 1) iX11_digest 9 [(0, rf g 129), (1, .int 0)] I X1 (qL K)) : CL g (d + 1) iX11_digest [rf g 129] I X K := by
  refine ocall_of (by decide) (Nat.le_of_ble_eq_true rfl) ?_
  show SR g (d + 1) iX11_digest 0 [(0, rf g 129)] I X (qL K)
  refine r_aload_n (n := 1) 0 dX11_digest_0 rfl rfl ?_
  refine r_ldc2 (n := 4) (v := 17) dX11_digest_1 gw_1511 rfl ?_
  have H := H _ rfl
  refine rs_putL (n := 7) cls_10 37 fp_10_37 so_129 gw_1063 dX11_digest_4 rfl ?_
  refine r_iconst (n := 8) (v := 0) dX11_digest_7 ki_0 rfl ?_
  refine r_istore_n (n := 9) (lv' := [(1, .int _), (0, .ref _)]) dX11_digest_8 rfl (by decide) rfl rfl ?_
  exact r_sub [1, 0] rfl H
set_option maxRecDepth 20000 in
theorem rg_X11_digest_9 {g : OG} {d : Nat} {I : IT} {X : XT} {K : Int64 → IT → XT → Prop} {l1 : Int32} 
    (H : (9 ≤ l1 →
        CV g d iX11_mixVillage [rf g 129] I X (fun I1 X2 =>
          SR g (d + 1) iX11_digest 37 [(0, rf g 129), (1, .int 0)] I1 X2 (qL K))) ∧
      (¬ 9 ≤ l1 →
        CI g d iX11_counted [rf g 129, .int l1] I X (fun r3 I4 X5 =>
          CV g d iX11_mix [rf g 129, .long r3.toInt64] I4 X5 (fun I6 X7 =>
            ∀ x8 : Int32, x8 = l1 + 1 →
            SR g (d + 1) iX11_digest 9 [(0, rf g 129), (1, .int x8)] I6 X7 (qL K))))) : SR g (d + 1) iX11_digest 9 [(0, rf g 129), (1, .int l1)] I X (qL K) := by
  refine r_iload_n (n := 10) 1 dX11_digest_9 rfl rfl ?_
  refine r_bipush (n := 12) (v := 9) dX11_digest_10 kb_9 rfl ?_
  refine r_icmp_ge (n := 15) (tgt := 31) dX11_digest_12 (by decide) rfl (fun c => ?_) (fun c => ?_)
  · have H := H.1 c
    refine r_aload_n (n := 32) 0 dX11_digest_31 rfl rfl ?_
    refine rs_cVv (n := 35) (rest := []) (As := []) vm_X11_mixVillage gw_1517 so_129 cq_10 dX11_digest_32 rfl rfl (Nat.le_of_ble_eq_true rfl) rfl (CV.mono H (fun I1 X2 H => ?_))
    refine r_iconst (n := 36) (v := 0) dX11_digest_35 ki_0 rfl ?_
    refine r_istore_n (n := 37) (lv' := [(1, .int _), (0, .ref _)]) dX11_digest_36 rfl (by decide) rfl rfl ?_
    exact r_sub [1, 0] rfl H
  · have H := H.2 c
    refine r_aload_n (n := 16) 0 dX11_digest_15 rfl rfl ?_
    refine r_aload_n (n := 17) 0 dX11_digest_16 rfl rfl ?_
    refine r_iload_n (n := 18) 1 dX11_digest_17 rfl rfl ?_
    refine rs_cVi (n := 21) (rest := [.ref _]) (As := [.int _]) vm_X11_counted gw_1503 so_129 cq_10 dX11_digest_18 rfl rfl (Nat.le_of_ble_eq_true rfl) rfl (CI.mono H (fun r3 I4 X5 H => ?_))
    refine r_i2l (n := 22) dX11_digest_21 rfl ?_
    refine rs_cVv (n := 25) (rest := []) (As := [.long _]) vm_X11_mix gw_1512 so_129 cq_10 dX11_digest_22 rfl rfl (Nat.le_of_ble_eq_true rfl) rfl (CV.mono H (fun I6 X7 H => ?_))
    have H := H _ rfl
    refine r_iinc (n := 28) (lv' := [(1, .int _), (0, .ref _)]) 1 dX11_digest_25 rfl rfl (by decide) rfl rfl ?_
    refine r_goto (n := 9) dX11_digest_28 (by decide) ?_
    exact r_sub [1, 0] rfl H
set_option maxRecDepth 20000 in
theorem rg_X11_digest_37 {g : OG} {d : Nat} {I : IT} {X : XT} {K : Int64 → IT → XT → Prop} {l1 : Int32} 
    (H : (6 ≤ l1 →
        SR g (d + 1) iX11_digest 91 [(0, rf g 129), (1, .int 0)] I X (qL K)) ∧
      (¬ 6 ≤ l1 →
        vp_in l1 6 ∧
        CV g d iX11_mix [rf g 129, .long ((I 131 l1.toNatClampNeg).toInt64)] I X (fun I2 X3 =>
          SR g (d + 1) iX11_digest 56 [(0, rf g 129), (1, .int l1), (2, .int 0)] I2 X3 (qL K)))) : SR g (d + 1) iX11_digest 37 [(0, rf g 129), (1, .int l1)] I X (qL K) := by
  refine r_iload_n (n := 38) 1 dX11_digest_37 rfl rfl ?_
  refine r_bipush (n := 40) (v := 6) dX11_digest_38 kb_6 rfl ?_
  refine r_icmp_ge (n := 43) (tgt := 89) dX11_digest_40 (by decide) rfl (fun c => ?_) (fun c => ?_)
  · have H := H.1 c
    refine r_iconst (n := 90) (v := 0) dX11_digest_89 ki_0 rfl ?_
    refine r_istore_n (n := 91) (lv' := [(1, .int _), (0, .ref _)]) dX11_digest_90 rfl (by decide) rfl rfl ?_
    exact r_sub [1, 0] rfl H
  · have H := H.2 c
    refine r_aload_n (n := 44) 0 dX11_digest_43 rfl rfl ?_
    refine r_aload_n (n := 45) 0 dX11_digest_44 rfl rfl ?_
    refine r_getR (n := 48) cls_10 5 fi_10_5 so_129 gw_1031 dX11_digest_45 rfl sr_129_5 (by decide) ?_
    refine r_iload_n (n := 49) 1 dX11_digest_48 rfl rfl ?_
    obtain ⟨hi1, H⟩ := H
    refine rs_iald (n := 50) sa_131 hi1 dX11_digest_49 rfl ?_
    refine r_i2l (n := 51) dX11_digest_50 rfl ?_
    refine rs_cVv (n := 54) (rest := []) (As := [.long _]) vm_X11_mix gw_1512 so_129 cq_10 dX11_digest_51 rfl rfl (Nat.le_of_ble_eq_true rfl) rfl (CV.mono H (fun I2 X3 H => ?_))
    refine r_iconst (n := 55) (v := 0) dX11_digest_54 ki_0 rfl ?_
    refine r_istore_n (n := 56) (lv' := [(2, .int _), (0, .ref _), (1, .int _)]) dX11_digest_55 rfl (by decide) rfl rfl ?_
    exact r_sub [1, 2, 0] rfl H
set_option maxRecDepth 20000 in
theorem rg_X11_digest_91 {g : OG} {d : Nat} {I : IT} {X : XT} {K : Int64 → IT → XT → Prop} {l1 : Int32} 
    (H : (4 ≤ l1 →
        K (X.1 129 37) I X) ∧
      (¬ 4 ≤ l1 →
        vp_in l1 4 ∧
        CV g d iX11_mix [rf g 129, .long ((I 134 l1.toNatClampNeg).toInt64)] I X (fun I2 X3 =>
          SR g (d + 1) iX11_digest 109 [(0, rf g 129), (1, .int l1), (2, .int 0)] I2 X3 (qL K)))) : SR g (d + 1) iX11_digest 91 [(0, rf g 129), (1, .int l1)] I X (qL K) := by
  refine r_iload_n (n := 92) 1 dX11_digest_91 rfl rfl ?_
  refine r_iconst (n := 93) (v := 4) dX11_digest_92 ki_4 rfl ?_
  refine r_icmp_ge (n := 96) (tgt := 142) dX11_digest_93 (by decide) rfl (fun c => ?_) (fun c => ?_)
  · have H := H.1 c
    refine r_aload_n (n := 143) 0 dX11_digest_142 rfl rfl ?_
    refine rs_getL (n := 146) cls_10 37 fi_10_37 so_129 gw_1063 dX11_digest_143 rfl ?_
    exact rs_lret dX11_digest_146 rfl H
  · have H := H.2 c
    refine r_aload_n (n := 97) 0 dX11_digest_96 rfl rfl ?_
    refine r_aload_n (n := 98) 0 dX11_digest_97 rfl rfl ?_
    refine r_getR (n := 101) cls_10 8 fi_10_8 so_129 gw_1034 dX11_digest_98 rfl sr_129_8 (by decide) ?_
    refine r_iload_n (n := 102) 1 dX11_digest_101 rfl rfl ?_
    obtain ⟨hi1, H⟩ := H
    refine rs_iald (n := 103) sa_134 hi1 dX11_digest_102 rfl ?_
    refine r_i2l (n := 104) dX11_digest_103 rfl ?_
    refine rs_cVv (n := 107) (rest := []) (As := [.long _]) vm_X11_mix gw_1512 so_129 cq_10 dX11_digest_104 rfl rfl (Nat.le_of_ble_eq_true rfl) rfl (CV.mono H (fun I2 X3 H => ?_))
    refine r_iconst (n := 108) (v := 0) dX11_digest_107 ki_0 rfl ?_
    refine r_istore_n (n := 109) (lv' := [(2, .int _), (0, .ref _), (1, .int _)]) dX11_digest_108 rfl (by decide) rfl rfl ?_
    exact r_sub [1, 2, 0] rfl H
set_option maxRecDepth 20000 in
theorem rg_X11_digest_56 {g : OG} {d : Nat} {I : IT} {X : XT} {K : Int64 → IT → XT → Prop} {l1 : Int32} {l2 : Int32} 
    (H : vp_in l1 6 ∧
      ((I 131 l1.toNatClampNeg) ≤ l2 →
        ∀ x2 : Int32, x2 = l1 + 1 →
        SR g (d + 1) iX11_digest 37 [(0, rf g 129), (1, .int x2)] I X (qL K)) ∧
      (¬ (I 131 l1.toNatClampNeg) ≤ l2 →
        CI g d iX11_rowAt [rf g 129, .int l1, .int l2] I X (fun r3 I4 X5 =>
          CV g d iX11_mix [rf g 129, .long r3.toInt64] I4 X5 (fun I6 X7 =>
            ∀ x8 : Int32, x8 = l2 + 1 →
            SR g (d + 1) iX11_digest 56 [(0, rf g 129), (1, .int l1), (2, .int x8)] I6 X7 (qL K))))) : SR g (d + 1) iX11_digest 56 [(0, rf g 129), (1, .int l1), (2, .int l2)] I X (qL K) := by
  refine r_iload_n (n := 57) 2 dX11_digest_56 rfl rfl ?_
  refine r_aload_n (n := 58) 0 dX11_digest_57 rfl rfl ?_
  refine r_getR (n := 61) cls_10 5 fi_10_5 so_129 gw_1031 dX11_digest_58 rfl sr_129_5 (by decide) ?_
  refine r_iload_n (n := 62) 1 dX11_digest_61 rfl rfl ?_
  obtain ⟨hi1, H⟩ := H
  refine rs_iald (n := 63) sa_131 hi1 dX11_digest_62 rfl ?_
  refine r_icmp_ge (n := 66) (tgt := 83) dX11_digest_63 (by decide) rfl (fun c => ?_) (fun c => ?_)
  · have H := H.1 c
    have H := H _ rfl
    refine r_iinc (n := 86) (lv' := [(1, .int _), (0, .ref _), (2, .int _)]) 1 dX11_digest_83 rfl rfl (by decide) rfl rfl ?_
    refine r_goto (n := 37) dX11_digest_86 (by decide) ?_
    exact r_sub [1, 0] rfl H
  · have H := H.2 c
    refine r_aload_n (n := 67) 0 dX11_digest_66 rfl rfl ?_
    refine r_aload_n (n := 68) 0 dX11_digest_67 rfl rfl ?_
    refine r_iload_n (n := 69) 1 dX11_digest_68 rfl rfl ?_
    refine r_iload_n (n := 70) 2 dX11_digest_69 rfl rfl ?_
    refine rs_cVi (n := 73) (rest := [.ref _]) (As := [.int _, .int _]) vm_X11_rowAt gw_1180 so_129 cq_10 dX11_digest_70 rfl rfl (Nat.le_of_ble_eq_true rfl) rfl (CI.mono H (fun r3 I4 X5 H => ?_))
    refine r_i2l (n := 74) dX11_digest_73 rfl ?_
    refine rs_cVv (n := 77) (rest := []) (As := [.long _]) vm_X11_mix gw_1512 so_129 cq_10 dX11_digest_74 rfl rfl (Nat.le_of_ble_eq_true rfl) rfl (CV.mono H (fun I6 X7 H => ?_))
    have H := H _ rfl
    refine r_iinc (n := 80) (lv' := [(2, .int _), (0, .ref _), (1, .int _)]) 2 dX11_digest_77 rfl rfl (by decide) rfl rfl ?_
    refine r_goto (n := 56) dX11_digest_80 (by decide) ?_
    exact r_sub [1, 2, 0] rfl H
set_option maxRecDepth 20000 in
theorem rg_X11_digest_109 {g : OG} {d : Nat} {I : IT} {X : XT} {K : Int64 → IT → XT → Prop} {l1 : Int32} {l2 : Int32} 
    (H : vp_in l1 4 ∧
      ((I 134 l1.toNatClampNeg) ≤ l2 →
        ∀ x2 : Int32, x2 = l1 + 1 →
        SR g (d + 1) iX11_digest 91 [(0, rf g 129), (1, .int x2)] I X (qL K)) ∧
      (¬ (I 134 l1.toNatClampNeg) ≤ l2 →
        CI g d iX11_byteAt [rf g 129, .int l1, .int l2] I X (fun r3 I4 X5 =>
          CV g d iX11_mix [rf g 129, .long r3.toInt64] I4 X5 (fun I6 X7 =>
            ∀ x8 : Int32, x8 = l2 + 1 →
            SR g (d + 1) iX11_digest 109 [(0, rf g 129), (1, .int l1), (2, .int x8)] I6 X7 (qL K))))) : SR g (d + 1) iX11_digest 109 [(0, rf g 129), (1, .int l1), (2, .int l2)] I X (qL K) := by
  refine r_iload_n (n := 110) 2 dX11_digest_109 rfl rfl ?_
  refine r_aload_n (n := 111) 0 dX11_digest_110 rfl rfl ?_
  refine r_getR (n := 114) cls_10 8 fi_10_8 so_129 gw_1034 dX11_digest_111 rfl sr_129_8 (by decide) ?_
  refine r_iload_n (n := 115) 1 dX11_digest_114 rfl rfl ?_
  obtain ⟨hi1, H⟩ := H
  refine rs_iald (n := 116) sa_134 hi1 dX11_digest_115 rfl ?_
  refine r_icmp_ge (n := 119) (tgt := 136) dX11_digest_116 (by decide) rfl (fun c => ?_) (fun c => ?_)
  · have H := H.1 c
    have H := H _ rfl
    refine r_iinc (n := 139) (lv' := [(1, .int _), (0, .ref _), (2, .int _)]) 1 dX11_digest_136 rfl rfl (by decide) rfl rfl ?_
    refine r_goto (n := 91) dX11_digest_139 (by decide) ?_
    exact r_sub [1, 0] rfl H
  · have H := H.2 c
    refine r_aload_n (n := 120) 0 dX11_digest_119 rfl rfl ?_
    refine r_aload_n (n := 121) 0 dX11_digest_120 rfl rfl ?_
    refine r_iload_n (n := 122) 1 dX11_digest_121 rfl rfl ?_
    refine r_iload_n (n := 123) 2 dX11_digest_122 rfl rfl ?_
    refine rs_cVi (n := 126) (rest := [.ref _]) (As := [.int _, .int _]) vm_X11_byteAt gw_1223 so_129 cq_10 dX11_digest_123 rfl rfl (Nat.le_of_ble_eq_true rfl) rfl (CI.mono H (fun r3 I4 X5 H => ?_))
    refine r_i2l (n := 127) dX11_digest_126 rfl ?_
    refine rs_cVv (n := 130) (rest := []) (As := [.long _]) vm_X11_mix gw_1512 so_129 cq_10 dX11_digest_127 rfl rfl (Nat.le_of_ble_eq_true rfl) rfl (CV.mono H (fun I6 X7 H => ?_))
    have H := H _ rfl
    refine r_iinc (n := 133) (lv' := [(2, .int _), (0, .ref _), (1, .int _)]) 2 dX11_digest_130 rfl rfl (by decide) rfl rfl ?_
    refine r_goto (n := 109) dX11_digest_133 (by decide) ?_
    exact r_sub [1, 2, 0] rfl H

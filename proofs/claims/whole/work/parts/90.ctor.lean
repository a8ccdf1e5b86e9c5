/-! ===== the constructors ===== -/
theorem dv_0 : ∀ k, k < 5 → defaultValue (tyX0 k) = if fk 0 k = 0 then .int 0 else if fk 0 k = 1 then .long 0 else .null := by
  intro k hk
  have : k = 0 ∨ k = 1 ∨ k = 2 ∨ k = 3 ∨ k = 4 := by omega
  rcases this with rfl | rfl | rfl | rfl | rfl <;> rfl
theorem dv_1 : ∀ k, k < 7 → defaultValue (tyX1 k) = if fk 1 k = 0 then .int 0 else if fk 1 k = 1 then .long 0 else .null := by
  intro k hk
  have : k = 0 ∨ k = 1 ∨ k = 2 ∨ k = 3 ∨ k = 4 ∨ k = 5 ∨ k = 6 := by omega
  rcases this with rfl | rfl | rfl | rfl | rfl | rfl | rfl <;> rfl
theorem dv_2 : ∀ k, k < 5 → defaultValue (tyX3 k) = if fk 2 k = 0 then .int 0 else if fk 2 k = 1 then .long 0 else .null := by
  intro k hk
  have : k = 0 ∨ k = 1 ∨ k = 2 ∨ k = 3 ∨ k = 4 := by omega
  rcases this with rfl | rfl | rfl | rfl | rfl <;> rfl
theorem dv_3 : ∀ k, k < 6 → defaultValue (tyX4 k) = if fk 3 k = 0 then .int 0 else if fk 3 k = 1 then .long 0 else .null := by
  intro k hk
  have : k = 0 ∨ k = 1 ∨ k = 2 ∨ k = 3 ∨ k = 4 ∨ k = 5 := by omega
  rcases this with rfl | rfl | rfl | rfl | rfl | rfl <;> rfl
theorem dv_4 : ∀ k, k < 10 → defaultValue (tyX5 k) = if fk 4 k = 0 then .int 0 else if fk 4 k = 1 then .long 0 else .null := by
  intro k hk
  have : k = 0 ∨ k = 1 ∨ k = 2 ∨ k = 3 ∨ k = 4 ∨ k = 5 ∨ k = 6 ∨ k = 7 ∨ k = 8 ∨ k = 9 := by omega
  rcases this with rfl | rfl | rfl | rfl | rfl | rfl | rfl | rfl | rfl | rfl <;> rfl
theorem dv_5 : ∀ k, k < 0 → defaultValue (tyX6 k) = if fk 5 k = 0 then .int 0 else if fk 5 k = 1 then .long 0 else .null := fun k h => absurd h (Nat.not_lt_zero k)
theorem dv_6 : ∀ k, k < 2 → defaultValue (tyX7 k) = if fk 6 k = 0 then .int 0 else if fk 6 k = 1 then .long 0 else .null := by
  intro k hk
  have : k = 0 ∨ k = 1 := by omega
  rcases this with rfl | rfl <;> rfl
theorem dv_7 : ∀ k, k < 5 → defaultValue (tyX8 k) = if fk 7 k = 0 then .int 0 else if fk 7 k = 1 then .long 0 else .null := by
  intro k hk
  have : k = 0 ∨ k = 1 ∨ k = 2 ∨ k = 3 ∨ k = 4 := by omega
  rcases this with rfl | rfl | rfl | rfl | rfl <;> rfl
theorem dv_8 : ∀ k, k < 2 → defaultValue (tyX9 k) = if fk 8 k = 0 then .int 0 else if fk 8 k = 1 then .long 0 else .null := by
  intro k hk
  have : k = 0 ∨ k = 1 := by omega
  rcases this with rfl | rfl <;> rfl
theorem dv_9 : ∀ k, k < 17 → defaultValue (tyX10 k) = if fk 9 k = 0 then .int 0 else if fk 9 k = 1 then .long 0 else .null := by
  intro k hk
  have : k = 0 ∨ k = 1 ∨ k = 2 ∨ k = 3 ∨ k = 4 ∨ k = 5 ∨ k = 6 ∨ k = 7 ∨ k = 8 ∨ k = 9 ∨ k = 10 ∨ k = 11 ∨ k = 12 ∨ k = 13 ∨ k = 14 ∨ k = 15 ∨ k = 16 := by omega
  rcases this with rfl | rfl | rfl | rfl | rfl | rfl | rfl | rfl | rfl | rfl | rfl | rfl | rfl | rfl | rfl | rfl | rfl <;> rfl
theorem dv_10 : ∀ k, k < 38 → defaultValue (tyX11 k) = if fk 10 k = 0 then .int 0 else if fk 10 k = 1 then .long 0 else .null := by
  intro k hk
  have : k = 0 ∨ k = 1 ∨ k = 2 ∨ k = 3 ∨ k = 4 ∨ k = 5 ∨ k = 6 ∨ k = 7 ∨ k = 8 ∨ k = 9 ∨ k = 10 ∨ k = 11 ∨ k = 12 ∨ k = 13 ∨ k = 14 ∨ k = 15 ∨ k = 16 ∨ k = 17 ∨ k = 18 ∨ k = 19 ∨ k = 20 ∨ k = 21 ∨ k = 22 ∨ k = 23 ∨ k = 24 ∨ k = 25 ∨ k = 26 ∨ k = 27 ∨ k = 28 ∨ k = 29 ∨ k = 30 ∨ k = 31 ∨ k = 32 ∨ k = 33 ∨ k = 34 ∨ k = 35 ∨ k = 36 ∨ k = 37 := by omega
  rcases this with rfl | rfl | rfl | rfl | rfl | rfl | rfl | rfl | rfl | rfl | rfl | rfl | rfl | rfl | rfl | rfl | rfl | rfl | rfl | rfl | rfl | rfl | rfl | rfl | rfl | rfl | rfl | rfl | rfl | rfl | rfl | rfl | rfl | rfl | rfl | rfl | rfl | rfl <;> rfl
theorem na_int : ∀ (s : State) (cA : ClassId), va_RA s cA .int → s.vm.findClass ("[" ++ FieldType.int.toString) = some cA := fun _ _ h => h
theorem na_byte : ∀ (s : State) (cA : ClassId), va_RA s cA .byte → s.vm.findClass ("[" ++ FieldType.byte.toString) = some cA := fun _ _ h => h
theorem na_boolean : ∀ (s : State) (cA : ClassId), va_RA s cA .boolean → s.vm.findClass ("[" ++ FieldType.boolean.toString) = some cA := fun _ _ h => h
set_option maxRecDepth 20000 in
theorem k_3 {g : OG} {d : Nat} : OCall g (d + 1) 1 40 iX7_init [.ref (og_b g + 3)] (PS 3 [(3, 0), (3, 1), (2, 0), (2, 1), (2, 2), (2, 3), (2, 4), (2, 5), (1, 1), (1, 2), (1, 3), (1, 4), (1, 5), (1, 6), (1, 7), (1, 8), (1, 9), (1, 10), (1, 11), (1, 12), (1, 16)]) (QV (fun h' => h' = PS 4 [(2, 0), (2, 1), (2, 2), (2, 3), (2, 4), (2, 5), (1, 1), (1, 2), (1, 3), (1, 4), (1, 5), (1, 6), (1, 7), (1, 8), (1, 9), (1, 10), (1, 11), (1, 12), (1, 16)])) := by
  refine ocall_of (by decide) (Nat.le_of_ble_eq_true rfl) ?_
  show ORuns g (d + 1) 1 40 iX7_init 0 [(0, .ref (og_b g + 3))] [] (PS 3 [(3, 0), (3, 1), (2, 0), (2, 1), (2, 2), (2, 3), (2, 4), (2, 5), (1, 1), (1, 2), (1, 3), (1, 4), (1, 5), (1, 6), (1, 7), (1, 8), (1, 9), (1, 10), (1, 11), (1, 12), (1, 16)]) _
  refine r_aload_n (n := 1) 0 dX7_init_0 rfl rfl ?_
  refine r_objInit (n := 4) gw_93 ⟨gw_85, gw_86⟩ (Nat.le_of_ble_eq_true rfl) dX7_init_1 rfl ?_
  refine r_aload_n (n := 5) 0 dX7_init_4 rfl rfl ?_
  refine r_bipush (n := 7) (v := 40) dX7_init_5 (by decide) rfl ?_
  refine p_newarr (n := 9) (m := 3) (L' := [(3, 0), (3, 1), (2, 0), (2, 1), (2, 2), (2, 3), (2, 4), (2, 5), (1, 1), (1, 2), (1, 3), (1, 4), (1, 5), (1, 6), (1, 7), (1, 8), (1, 9), (1, 10), (1, 11), (1, 12), (1, 16)]) (t := 11) (i0 := 0) (fty := .int) (z := 40) (Z := 40) (mc := 0) (ms := 0) (by decide +kernel) (by decide +kernel) rfl (by decide) (fun _ => rfl) rfl na_int gw_105 (by decide) dX7_init_7 rfl ?_
  show ORuns g (d + 1) 0 0 iX7_init 9 [(0, .ref (og_b g + 3))] [.ref (og_b g + 4), .ref (og_b g + 3)] (PS 4 [(3, 0), (3, 1), (2, 0), (2, 1), (2, 2), (2, 3), (2, 4), (2, 5), (1, 1), (1, 2), (1, 3), (1, 4), (1, 5), (1, 6), (1, 7), (1, 8), (1, 9), (1, 10), (1, 11), (1, 12), (1, 16)]) _
  refine p_putR (n := 12) (v := 4) (m := 4) (a := 3) (L' := [(3, 1), (2, 0), (2, 1), (2, 2), (2, 3), (2, 4), (2, 5), (1, 1), (1, 2), (1, 3), (1, 4), (1, 5), (1, 6), (1, 7), (1, 8), (1, 9), (1, 10), (1, 11), (1, 12), (1, 16)]) 0 (by decide) (by decide +kernel) (by decide +kernel) cls_6 fi_6_0 (Or.inr ⟨rfl, rfl, rfl⟩) (fun _ => ⟨rfl, rfl⟩) (ps_obj (by decide +kernel)) gw_94 dX7_init_9 rfl ?_
  refine r_aload_n (n := 13) 0 dX7_init_12 rfl rfl ?_
  refine r_iconst (n := 14) (v := (-1)) dX7_init_13 (by decide) rfl ?_
  refine p_putI (n := 17) (m := 4) (a := 3) (L' := [(2, 0), (2, 1), (2, 2), (2, 3), (2, 4), (2, 5), (1, 1), (1, 2), (1, 3), (1, 4), (1, 5), (1, 6), (1, 7), (1, 8), (1, 9), (1, 10), (1, 11), (1, 12), (1, 16)]) 1 (by decide +kernel) (by decide +kernel) cls_6 fp_6_1 (ps_obj (by decide +kernel)) gw_96 dX7_init_14 rfl ?_
  exact r_vret (st := []) dX7_init_17 rfl rfl
set_option maxRecDepth 20000 in
theorem k_5 {g : OG} {d : Nat} : OCall g (d + 1) 1 40 iX7_init [.ref (og_b g + 5)] (PS 5 [(5, 0), (5, 1), (2, 1), (2, 2), (2, 3), (2, 4), (2, 5), (1, 1), (1, 2), (1, 3), (1, 4), (1, 5), (1, 6), (1, 7), (1, 8), (1, 9), (1, 10), (1, 11), (1, 12), (1, 16)]) (QV (fun h' => h' = PS 6 [(2, 1), (2, 2), (2, 3), (2, 4), (2, 5), (1, 1), (1, 2), (1, 3), (1, 4), (1, 5), (1, 6), (1, 7), (1, 8), (1, 9), (1, 10), (1, 11), (1, 12), (1, 16)])) := by
  refine ocall_of (by decide) (Nat.le_of_ble_eq_true rfl) ?_
  show ORuns g (d + 1) 1 40 iX7_init 0 [(0, .ref (og_b g + 5))] [] (PS 5 [(5, 0), (5, 1), (2, 1), (2, 2), (2, 3), (2, 4), (2, 5), (1, 1), (1, 2), (1, 3), (1, 4), (1, 5), (1, 6), (1, 7), (1, 8), (1, 9), (1, 10), (1, 11), (1, 12), (1, 16)]) _
  refine r_aload_n (n := 1) 0 dX7_init_0 rfl rfl ?_
  refine r_objInit (n := 4) gw_93 ⟨gw_85, gw_86⟩ (Nat.le_of_ble_eq_true rfl) dX7_init_1 rfl ?_
  refine r_aload_n (n := 5) 0 dX7_init_4 rfl rfl ?_
  refine r_bipush (n := 7) (v := 40) dX7_init_5 (by decide) rfl ?_
  refine p_newarr (n := 9) (m := 5) (L' := [(5, 0), (5, 1), (2, 1), (2, 2), (2, 3), (2, 4), (2, 5), (1, 1), (1, 2), (1, 3), (1, 4), (1, 5), (1, 6), (1, 7), (1, 8), (1, 9), (1, 10), (1, 11), (1, 12), (1, 16)]) (t := 11) (i0 := 0) (fty := .int) (z := 40) (Z := 40) (mc := 0) (ms := 0) (by decide +kernel) (by decide +kernel) rfl (by decide) (fun _ => rfl) rfl na_int gw_105 (by decide) dX7_init_7 rfl ?_
  show ORuns g (d + 1) 0 0 iX7_init 9 [(0, .ref (og_b g + 5))] [.ref (og_b g + 6), .ref (og_b g + 5)] (PS 6 [(5, 0), (5, 1), (2, 1), (2, 2), (2, 3), (2, 4), (2, 5), (1, 1), (1, 2), (1, 3), (1, 4), (1, 5), (1, 6), (1, 7), (1, 8), (1, 9), (1, 10), (1, 11), (1, 12), (1, 16)]) _
  refine p_putR (n := 12) (v := 6) (m := 6) (a := 5) (L' := [(5, 1), (2, 1), (2, 2), (2, 3), (2, 4), (2, 5), (1, 1), (1, 2), (1, 3), (1, 4), (1, 5), (1, 6), (1, 7), (1, 8), (1, 9), (1, 10), (1, 11), (1, 12), (1, 16)]) 0 (by decide) (by decide +kernel) (by decide +kernel) cls_6 fi_6_0 (Or.inr ⟨rfl, rfl, rfl⟩) (fun _ => ⟨rfl, rfl⟩) (ps_obj (by decide +kernel)) gw_94 dX7_init_9 rfl ?_
  refine r_aload_n (n := 13) 0 dX7_init_12 rfl rfl ?_
  refine r_iconst (n := 14) (v := (-1)) dX7_init_13 (by decide) rfl ?_
  refine p_putI (n := 17) (m := 6) (a := 5) (L' := [(2, 1), (2, 2), (2, 3), (2, 4), (2, 5), (1, 1), (1, 2), (1, 3), (1, 4), (1, 5), (1, 6), (1, 7), (1, 8), (1, 9), (1, 10), (1, 11), (1, 12), (1, 16)]) 1 (by decide +kernel) (by decide +kernel) cls_6 fp_6_1 (ps_obj (by decide +kernel)) gw_96 dX7_init_14 rfl ?_
  exact r_vret (st := []) dX7_init_17 rfl rfl
set_option maxRecDepth 20000 in
theorem k_7 {g : OG} {d : Nat} : OCall g (d + 1) 1 40 iX7_init [.ref (og_b g + 7)] (PS 7 [(7, 0), (7, 1), (2, 2), (2, 3), (2, 4), (2, 5), (1, 1), (1, 2), (1, 3), (1, 4), (1, 5), (1, 6), (1, 7), (1, 8), (1, 9), (1, 10), (1, 11), (1, 12), (1, 16)]) (QV (fun h' => h' = PS 8 [(2, 2), (2, 3), (2, 4), (2, 5), (1, 1), (1, 2), (1, 3), (1, 4), (1, 5), (1, 6), (1, 7), (1, 8), (1, 9), (1, 10), (1, 11), (1, 12), (1, 16)])) := by
  refine ocall_of (by decide) (Nat.le_of_ble_eq_true rfl) ?_
  show ORuns g (d + 1) 1 40 iX7_init 0 [(0, .ref (og_b g + 7))] [] (PS 7 [(7, 0), (7, 1), (2, 2), (2, 3), (2, 4), (2, 5), (1, 1), (1, 2), (1, 3), (1, 4), (1, 5), (1, 6), (1, 7), (1, 8), (1, 9), (1, 10), (1, 11), (1, 12), (1, 16)]) _
  refine r_aload_n (n := 1) 0 dX7_init_0 rfl rfl ?_
  refine r_objInit (n := 4) gw_93 ⟨gw_85, gw_86⟩ (Nat.le_of_ble_eq_true rfl) dX7_init_1 rfl ?_
  refine r_aload_n (n := 5) 0 dX7_init_4 rfl rfl ?_
  refine r_bipush (n := 7) (v := 40) dX7_init_5 (by decide) rfl ?_
  refine p_newarr (n := 9) (m := 7) (L' := [(7, 0), (7, 1), (2, 2), (2, 3), (2, 4), (2, 5), (1, 1), (1, 2), (1, 3), (1, 4), (1, 5), (1, 6), (1, 7), (1, 8), (1, 9), (1, 10), (1, 11), (1, 12), (1, 16)]) (t := 11) (i0 := 0) (fty := .int) (z := 40) (Z := 40) (mc := 0) (ms := 0) (by decide +kernel) (by decide +kernel) rfl (by decide) (fun _ => rfl) rfl na_int gw_105 (by decide) dX7_init_7 rfl ?_
  show ORuns g (d + 1) 0 0 iX7_init 9 [(0, .ref (og_b g + 7))] [.ref (og_b g + 8), .ref (og_b g + 7)] (PS 8 [(7, 0), (7, 1), (2, 2), (2, 3), (2, 4), (2, 5), (1, 1), (1, 2), (1, 3), (1, 4), (1, 5), (1, 6), (1, 7), (1, 8), (1, 9), (1, 10), (1, 11), (1, 12), (1, 16)]) _
  refine p_putR (n := 12) (v := 8) (m := 8) (a := 7) (L' := [(7, 1), (2, 2), (2, 3), (2, 4), (2, 5), (1, 1), (1, 2), (1, 3), (1, 4), (1, 5), (1, 6), (1, 7), (1, 8), (1, 9), (1, 10), (1, 11), (1, 12), (1, 16)]) 0 (by decide) (by decide +kernel) (by decide +kernel) cls_6 fi_6_0 (Or.inr ⟨rfl, rfl, rfl⟩) (fun _ => ⟨rfl, rfl⟩) (ps_obj (by decide +kernel)) gw_94 dX7_init_9 rfl ?_
  refine r_aload_n (n := 13) 0 dX7_init_12 rfl rfl ?_
  refine r_iconst (n := 14) (v := (-1)) dX7_init_13 (by decide) rfl ?_
  refine p_putI (n := 17) (m := 8) (a := 7) (L' := [(2, 2), (2, 3), (2, 4), (2, 5), (1, 1), (1, 2), (1, 3), (1, 4), (1, 5), (1, 6), (1, 7), (1, 8), (1, 9), (1, 10), (1, 11), (1, 12), (1, 16)]) 1 (by decide +kernel) (by decide +kernel) cls_6 fp_6_1 (ps_obj (by decide +kernel)) gw_96 dX7_init_14 rfl ?_
  exact r_vret (st := []) dX7_init_17 rfl rfl
set_option maxRecDepth 20000 in
theorem k_9 {g : OG} {d : Nat} : OCall g (d + 1) 1 40 iX7_init [.ref (og_b g + 9)] (PS 9 [(9, 0), (9, 1), (2, 3), (2, 4), (2, 5), (1, 1), (1, 2), (1, 3), (1, 4), (1, 5), (1, 6), (1, 7), (1, 8), (1, 9), (1, 10), (1, 11), (1, 12), (1, 16)]) (QV (fun h' => h' = PS 10 [(2, 3), (2, 4), (2, 5), (1, 1), (1, 2), (1, 3), (1, 4), (1, 5), (1, 6), (1, 7), (1, 8), (1, 9), (1, 10), (1, 11), (1, 12), (1, 16)])) := by
  refine ocall_of (by decide) (Nat.le_of_ble_eq_true rfl) ?_
  show ORuns g (d + 1) 1 40 iX7_init 0 [(0, .ref (og_b g + 9))] [] (PS 9 [(9, 0), (9, 1), (2, 3), (2, 4), (2, 5), (1, 1), (1, 2), (1, 3), (1, 4), (1, 5), (1, 6), (1, 7), (1, 8), (1, 9), (1, 10), (1, 11), (1, 12), (1, 16)]) _
  refine r_aload_n (n := 1) 0 dX7_init_0 rfl rfl ?_
  refine r_objInit (n := 4) gw_93 ⟨gw_85, gw_86⟩ (Nat.le_of_ble_eq_true rfl) dX7_init_1 rfl ?_
  refine r_aload_n (n := 5) 0 dX7_init_4 rfl rfl ?_
  refine r_bipush (n := 7) (v := 40) dX7_init_5 (by decide) rfl ?_
  refine p_newarr (n := 9) (m := 9) (L' := [(9, 0), (9, 1), (2, 3), (2, 4), (2, 5), (1, 1), (1, 2), (1, 3), (1, 4), (1, 5), (1, 6), (1, 7), (1, 8), (1, 9), (1, 10), (1, 11), (1, 12), (1, 16)]) (t := 11) (i0 := 0) (fty := .int) (z := 40) (Z := 40) (mc := 0) (ms := 0) (by decide +kernel) (by decide +kernel) rfl (by decide) (fun _ => rfl) rfl na_int gw_105 (by decide) dX7_init_7 rfl ?_
  show ORuns g (d + 1) 0 0 iX7_init 9 [(0, .ref (og_b g + 9))] [.ref (og_b g + 10), .ref (og_b g + 9)] (PS 10 [(9, 0), (9, 1), (2, 3), (2, 4), (2, 5), (1, 1), (1, 2), (1, 3), (1, 4), (1, 5), (1, 6), (1, 7), (1, 8), (1, 9), (1, 10), (1, 11), (1, 12), (1, 16)]) _
  refine p_putR (n := 12) (v := 10) (m := 10) (a := 9) (L' := [(9, 1), (2, 3), (2, 4), (2, 5), (1, 1), (1, 2), (1, 3), (1, 4), (1, 5), (1, 6), (1, 7), (1, 8), (1, 9), (1, 10), (1, 11), (1, 12), (1, 16)]) 0 (by decide) (by decide +kernel) (by decide +kernel) cls_6 fi_6_0 (Or.inr ⟨rfl, rfl, rfl⟩) (fun _ => ⟨rfl, rfl⟩) (ps_obj (by decide +kernel)) gw_94 dX7_init_9 rfl ?_
  refine r_aload_n (n := 13) 0 dX7_init_12 rfl rfl ?_
  refine r_iconst (n := 14) (v := (-1)) dX7_init_13 (by decide) rfl ?_
  refine p_putI (n := 17) (m := 10) (a := 9) (L' := [(2, 3), (2, 4), (2, 5), (1, 1), (1, 2), (1, 3), (1, 4), (1, 5), (1, 6), (1, 7), (1, 8), (1, 9), (1, 10), (1, 11), (1, 12), (1, 16)]) 1 (by decide +kernel) (by decide +kernel) cls_6 fp_6_1 (ps_obj (by decide +kernel)) gw_96 dX7_init_14 rfl ?_
  exact r_vret (st := []) dX7_init_17 rfl rfl
set_option maxRecDepth 20000 in
theorem k_11 {g : OG} {d : Nat} : OCall g (d + 1) 1 40 iX7_init [.ref (og_b g + 11)] (PS 11 [(11, 0), (11, 1), (2, 4), (2, 5), (1, 1), (1, 2), (1, 3), (1, 4), (1, 5), (1, 6), (1, 7), (1, 8), (1, 9), (1, 10), (1, 11), (1, 12), (1, 16)]) (QV (fun h' => h' = PS 12 [(2, 4), (2, 5), (1, 1), (1, 2), (1, 3), (1, 4), (1, 5), (1, 6), (1, 7), (1, 8), (1, 9), (1, 10), (1, 11), (1, 12), (1, 16)])) := by
  refine ocall_of (by decide) (Nat.le_of_ble_eq_true rfl) ?_
  show ORuns g (d + 1) 1 40 iX7_init 0 [(0, .ref (og_b g + 11))] [] (PS 11 [(11, 0), (11, 1), (2, 4), (2, 5), (1, 1), (1, 2), (1, 3), (1, 4), (1, 5), (1, 6), (1, 7), (1, 8), (1, 9), (1, 10), (1, 11), (1, 12), (1, 16)]) _
  refine r_aload_n (n := 1) 0 dX7_init_0 rfl rfl ?_
  refine r_objInit (n := 4) gw_93 ⟨gw_85, gw_86⟩ (Nat.le_of_ble_eq_true rfl) dX7_init_1 rfl ?_
  refine r_aload_n (n := 5) 0 dX7_init_4 rfl rfl ?_
  refine r_bipush (n := 7) (v := 40) dX7_init_5 (by decide) rfl ?_
  refine p_newarr (n := 9) (m := 11) (L' := [(11, 0), (11, 1), (2, 4), (2, 5), (1, 1), (1, 2), (1, 3), (1, 4), (1, 5), (1, 6), (1, 7), (1, 8), (1, 9), (1, 10), (1, 11), (1, 12), (1, 16)]) (t := 11) (i0 := 0) (fty := .int) (z := 40) (Z := 40) (mc := 0) (ms := 0) (by decide +kernel) (by decide +kernel) rfl (by decide) (fun _ => rfl) rfl na_int gw_105 (by decide) dX7_init_7 rfl ?_
  show ORuns g (d + 1) 0 0 iX7_init 9 [(0, .ref (og_b g + 11))] [.ref (og_b g + 12), .ref (og_b g + 11)] (PS 12 [(11, 0), (11, 1), (2, 4), (2, 5), (1, 1), (1, 2), (1, 3), (1, 4), (1, 5), (1, 6), (1, 7), (1, 8), (1, 9), (1, 10), (1, 11), (1, 12), (1, 16)]) _
  refine p_putR (n := 12) (v := 12) (m := 12) (a := 11) (L' := [(11, 1), (2, 4), (2, 5), (1, 1), (1, 2), (1, 3), (1, 4), (1, 5), (1, 6), (1, 7), (1, 8), (1, 9), (1, 10), (1, 11), (1, 12), (1, 16)]) 0 (by decide) (by decide +kernel) (by decide +kernel) cls_6 fi_6_0 (Or.inr ⟨rfl, rfl, rfl⟩) (fun _ => ⟨rfl, rfl⟩) (ps_obj (by decide +kernel)) gw_94 dX7_init_9 rfl ?_
  refine r_aload_n (n := 13) 0 dX7_init_12 rfl rfl ?_
  refine r_iconst (n := 14) (v := (-1)) dX7_init_13 (by decide) rfl ?_
  refine p_putI (n := 17) (m := 12) (a := 11) (L' := [(2, 4), (2, 5), (1, 1), (1, 2), (1, 3), (1, 4), (1, 5), (1, 6), (1, 7), (1, 8), (1, 9), (1, 10), (1, 11), (1, 12), (1, 16)]) 1 (by decide +kernel) (by decide +kernel) cls_6 fp_6_1 (ps_obj (by decide +kernel)) gw_96 dX7_init_14 rfl ?_
  exact r_vret (st := []) dX7_init_17 rfl rfl
set_option maxRecDepth 20000 in
theorem k_13 {g : OG} {d : Nat} : OCall g (d + 1) 1 40 iX7_init [.ref (og_b g + 13)] (PS 13 [(13, 0), (13, 1), (2, 5), (1, 1), (1, 2), (1, 3), (1, 4), (1, 5), (1, 6), (1, 7), (1, 8), (1, 9), (1, 10), (1, 11), (1, 12), (1, 16)]) (QV (fun h' => h' = PS 14 [(2, 5), (1, 1), (1, 2), (1, 3), (1, 4), (1, 5), (1, 6), (1, 7), (1, 8), (1, 9), (1, 10), (1, 11), (1, 12), (1, 16)])) := by
  refine ocall_of (by decide) (Nat.le_of_ble_eq_true rfl) ?_
  show ORuns g (d + 1) 1 40 iX7_init 0 [(0, .ref (og_b g + 13))] [] (PS 13 [(13, 0), (13, 1), (2, 5), (1, 1), (1, 2), (1, 3), (1, 4), (1, 5), (1, 6), (1, 7), (1, 8), (1, 9), (1, 10), (1, 11), (1, 12), (1, 16)]) _
  refine r_aload_n (n := 1) 0 dX7_init_0 rfl rfl ?_
  refine r_objInit (n := 4) gw_93 ⟨gw_85, gw_86⟩ (Nat.le_of_ble_eq_true rfl) dX7_init_1 rfl ?_
  refine r_aload_n (n := 5) 0 dX7_init_4 rfl rfl ?_
  refine r_bipush (n := 7) (v := 40) dX7_init_5 (by decide) rfl ?_
  refine p_newarr (n := 9) (m := 13) (L' := [(13, 0), (13, 1), (2, 5), (1, 1), (1, 2), (1, 3), (1, 4), (1, 5), (1, 6), (1, 7), (1, 8), (1, 9), (1, 10), (1, 11), (1, 12), (1, 16)]) (t := 11) (i0 := 0) (fty := .int) (z := 40) (Z := 40) (mc := 0) (ms := 0) (by decide +kernel) (by decide +kernel) rfl (by decide) (fun _ => rfl) rfl na_int gw_105 (by decide) dX7_init_7 rfl ?_
  show ORuns g (d + 1) 0 0 iX7_init 9 [(0, .ref (og_b g + 13))] [.ref (og_b g + 14), .ref (og_b g + 13)] (PS 14 [(13, 0), (13, 1), (2, 5), (1, 1), (1, 2), (1, 3), (1, 4), (1, 5), (1, 6), (1, 7), (1, 8), (1, 9), (1, 10), (1, 11), (1, 12), (1, 16)]) _
  refine p_putR (n := 12) (v := 14) (m := 14) (a := 13) (L' := [(13, 1), (2, 5), (1, 1), (1, 2), (1, 3), (1, 4), (1, 5), (1, 6), (1, 7), (1, 8), (1, 9), (1, 10), (1, 11), (1, 12), (1, 16)]) 0 (by decide) (by decide +kernel) (by decide +kernel) cls_6 fi_6_0 (Or.inr ⟨rfl, rfl, rfl⟩) (fun _ => ⟨rfl, rfl⟩) (ps_obj (by decide +kernel)) gw_94 dX7_init_9 rfl ?_
  refine r_aload_n (n := 13) 0 dX7_init_12 rfl rfl ?_
  refine r_iconst (n := 14) (v := (-1)) dX7_init_13 (by decide) rfl ?_
  refine p_putI (n := 17) (m := 14) (a := 13) (L' := [(2, 5), (1, 1), (1, 2), (1, 3), (1, 4), (1, 5), (1, 6), (1, 7), (1, 8), (1, 9), (1, 10), (1, 11), (1, 12), (1, 16)]) 1 (by decide +kernel) (by decide +kernel) cls_6 fp_6_1 (ps_obj (by decide +kernel)) gw_96 dX7_init_14 rfl ?_
  exact r_vret (st := []) dX7_init_17 rfl rfl
set_option maxRecDepth 20000 in
theorem k_16 {g : OG} {d : Nat} : OCall g (d + 1) 1 60 iX9_init [.ref (og_b g + 16)] (PS 16 [(16, 0), (16, 1), (15, 0), (15, 1), (15, 2), (15, 3), (1, 2), (1, 3), (1, 4), (1, 5), (1, 6), (1, 7), (1, 8), (1, 9), (1, 10), (1, 11), (1, 12), (1, 16)]) (QV (fun h' => h' = PS 17 [(15, 0), (15, 1), (15, 2), (15, 3), (1, 2), (1, 3), (1, 4), (1, 5), (1, 6), (1, 7), (1, 8), (1, 9), (1, 10), (1, 11), (1, 12), (1, 16)])) := by
  refine ocall_of (by decide) (Nat.le_of_ble_eq_true rfl) ?_
  show ORuns g (d + 1) 1 60 iX9_init 0 [(0, .ref (og_b g + 16))] [] (PS 16 [(16, 0), (16, 1), (15, 0), (15, 1), (15, 2), (15, 3), (1, 2), (1, 3), (1, 4), (1, 5), (1, 6), (1, 7), (1, 8), (1, 9), (1, 10), (1, 11), (1, 12), (1, 16)]) _
  refine r_aload_n (n := 1) 0 dX9_init_0 rfl rfl ?_
  refine r_objInit (n := 4) gw_112 ⟨gw_85, gw_86⟩ (Nat.le_of_ble_eq_true rfl) dX9_init_1 rfl ?_
  refine r_aload_n (n := 5) 0 dX9_init_4 rfl rfl ?_
  refine r_bipush (n := 7) (v := 60) dX9_init_5 (by decide) rfl ?_
  refine p_newarr (n := 9) (m := 16) (L' := [(16, 0), (16, 1), (15, 0), (15, 1), (15, 2), (15, 3), (1, 2), (1, 3), (1, 4), (1, 5), (1, 6), (1, 7), (1, 8), (1, 9), (1, 10), (1, 11), (1, 12), (1, 16)]) (t := 12) (i0 := 1) (fty := .byte) (z := 60) (Z := 60) (mc := 0) (ms := 0) (by decide +kernel) (by decide +kernel) rfl (by decide) (fun _ => rfl) rfl na_byte gw_121 (by decide) dX9_init_7 rfl ?_
  show ORuns g (d + 1) 0 0 iX9_init 9 [(0, .ref (og_b g + 16))] [.ref (og_b g + 17), .ref (og_b g + 16)] (PS 17 [(16, 0), (16, 1), (15, 0), (15, 1), (15, 2), (15, 3), (1, 2), (1, 3), (1, 4), (1, 5), (1, 6), (1, 7), (1, 8), (1, 9), (1, 10), (1, 11), (1, 12), (1, 16)]) _
  refine p_putR (n := 12) (v := 17) (m := 17) (a := 16) (L' := [(16, 1), (15, 0), (15, 1), (15, 2), (15, 3), (1, 2), (1, 3), (1, 4), (1, 5), (1, 6), (1, 7), (1, 8), (1, 9), (1, 10), (1, 11), (1, 12), (1, 16)]) 0 (by decide) (by decide +kernel) (by decide +kernel) cls_8 fi_8_0 (Or.inr ⟨rfl, rfl, rfl⟩) (fun _ => ⟨rfl, rfl⟩) (ps_obj (by decide +kernel)) gw_113 dX9_init_9 rfl ?_
  refine r_aload_n (n := 13) 0 dX9_init_12 rfl rfl ?_
  refine r_iconst (n := 14) (v := (-1)) dX9_init_13 (by decide) rfl ?_
  refine p_putI (n := 17) (m := 17) (a := 16) (L' := [(15, 0), (15, 1), (15, 2), (15, 3), (1, 2), (1, 3), (1, 4), (1, 5), (1, 6), (1, 7), (1, 8), (1, 9), (1, 10), (1, 11), (1, 12), (1, 16)]) 1 (by decide +kernel) (by decide +kernel) cls_8 fp_8_1 (ps_obj (by decide +kernel)) gw_114 dX9_init_14 rfl ?_
  exact r_vret (st := []) dX9_init_17 rfl rfl
set_option maxRecDepth 20000 in
theorem k_18 {g : OG} {d : Nat} : OCall g (d + 1) 1 60 iX9_init [.ref (og_b g + 18)] (PS 18 [(18, 0), (18, 1), (15, 1), (15, 2), (15, 3), (1, 2), (1, 3), (1, 4), (1, 5), (1, 6), (1, 7), (1, 8), (1, 9), (1, 10), (1, 11), (1, 12), (1, 16)]) (QV (fun h' => h' = PS 19 [(15, 1), (15, 2), (15, 3), (1, 2), (1, 3), (1, 4), (1, 5), (1, 6), (1, 7), (1, 8), (1, 9), (1, 10), (1, 11), (1, 12), (1, 16)])) := by
  refine ocall_of (by decide) (Nat.le_of_ble_eq_true rfl) ?_
  show ORuns g (d + 1) 1 60 iX9_init 0 [(0, .ref (og_b g + 18))] [] (PS 18 [(18, 0), (18, 1), (15, 1), (15, 2), (15, 3), (1, 2), (1, 3), (1, 4), (1, 5), (1, 6), (1, 7), (1, 8), (1, 9), (1, 10), (1, 11), (1, 12), (1, 16)]) _
  refine r_aload_n (n := 1) 0 dX9_init_0 rfl rfl ?_
  refine r_objInit (n := 4) gw_112 ⟨gw_85, gw_86⟩ (Nat.le_of_ble_eq_true rfl) dX9_init_1 rfl ?_
  refine r_aload_n (n := 5) 0 dX9_init_4 rfl rfl ?_
  refine r_bipush (n := 7) (v := 60) dX9_init_5 (by decide) rfl ?_
  refine p_newarr (n := 9) (m := 18) (L' := [(18, 0), (18, 1), (15, 1), (15, 2), (15, 3), (1, 2), (1, 3), (1, 4), (1, 5), (1, 6), (1, 7), (1, 8), (1, 9), (1, 10), (1, 11), (1, 12), (1, 16)]) (t := 12) (i0 := 1) (fty := .byte) (z := 60) (Z := 60) (mc := 0) (ms := 0) (by decide +kernel) (by decide +kernel) rfl (by decide) (fun _ => rfl) rfl na_byte gw_121 (by decide) dX9_init_7 rfl ?_
  show ORuns g (d + 1) 0 0 iX9_init 9 [(0, .ref (og_b g + 18))] [.ref (og_b g + 19), .ref (og_b g + 18)] (PS 19 [(18, 0), (18, 1), (15, 1), (15, 2), (15, 3), (1, 2), (1, 3), (1, 4), (1, 5), (1, 6), (1, 7), (1, 8), (1, 9), (1, 10), (1, 11), (1, 12), (1, 16)]) _
  refine p_putR (n := 12) (v := 19) (m := 19) (a := 18) (L' := [(18, 1), (15, 1), (15, 2), (15, 3), (1, 2), (1, 3), (1, 4), (1, 5), (1, 6), (1, 7), (1, 8), (1, 9), (1, 10), (1, 11), (1, 12), (1, 16)]) 0 (by decide) (by decide +kernel) (by decide +kernel) cls_8 fi_8_0 (Or.inr ⟨rfl, rfl, rfl⟩) (fun _ => ⟨rfl, rfl⟩) (ps_obj (by decide +kernel)) gw_113 dX9_init_9 rfl ?_
  refine r_aload_n (n := 13) 0 dX9_init_12 rfl rfl ?_
  refine r_iconst (n := 14) (v := (-1)) dX9_init_13 (by decide) rfl ?_
  refine p_putI (n := 17) (m := 19) (a := 18) (L' := [(15, 1), (15, 2), (15, 3), (1, 2), (1, 3), (1, 4), (1, 5), (1, 6), (1, 7), (1, 8), (1, 9), (1, 10), (1, 11), (1, 12), (1, 16)]) 1 (by decide +kernel) (by decide +kernel) cls_8 fp_8_1 (ps_obj (by decide +kernel)) gw_114 dX9_init_14 rfl ?_
  exact r_vret (st := []) dX9_init_17 rfl rfl
set_option maxRecDepth 20000 in
theorem k_20 {g : OG} {d : Nat} : OCall g (d + 1) 1 60 iX9_init [.ref (og_b g + 20)] (PS 20 [(20, 0), (20, 1), (15, 2), (15, 3), (1, 2), (1, 3), (1, 4), (1, 5), (1, 6), (1, 7), (1, 8), (1, 9), (1, 10), (1, 11), (1, 12), (1, 16)]) (QV (fun h' => h' = PS 21 [(15, 2), (15, 3), (1, 2), (1, 3), (1, 4), (1, 5), (1, 6), (1, 7), (1, 8), (1, 9), (1, 10), (1, 11), (1, 12), (1, 16)])) := by
  refine ocall_of (by decide) (Nat.le_of_ble_eq_true rfl) ?_
  show ORuns g (d + 1) 1 60 iX9_init 0 [(0, .ref (og_b g + 20))] [] (PS 20 [(20, 0), (20, 1), (15, 2), (15, 3), (1, 2), (1, 3), (1, 4), (1, 5), (1, 6), (1, 7), (1, 8), (1, 9), (1, 10), (1, 11), (1, 12), (1, 16)]) _
  refine r_aload_n (n := 1) 0 dX9_init_0 rfl rfl ?_
  refine r_objInit (n := 4) gw_112 ⟨gw_85, gw_86⟩ (Nat.le_of_ble_eq_true rfl) dX9_init_1 rfl ?_
  refine r_aload_n (n := 5) 0 dX9_init_4 rfl rfl ?_
  refine r_bipush (n := 7) (v := 60) dX9_init_5 (by decide) rfl ?_
  refine p_newarr (n := 9) (m := 20) (L' := [(20, 0), (20, 1), (15, 2), (15, 3), (1, 2), (1, 3), (1, 4), (1, 5), (1, 6), (1, 7), (1, 8), (1, 9), (1, 10), (1, 11), (1, 12), (1, 16)]) (t := 12) (i0 := 1) (fty := .byte) (z := 60) (Z := 60) (mc := 0) (ms := 0) (by decide +kernel) (by decide +kernel) rfl (by decide) (fun _ => rfl) rfl na_byte gw_121 (by decide) dX9_init_7 rfl ?_
  show ORuns g (d + 1) 0 0 iX9_init 9 [(0, .ref (og_b g + 20))] [.ref (og_b g + 21), .ref (og_b g + 20)] (PS 21 [(20, 0), (20, 1), (15, 2), (15, 3), (1, 2), (1, 3), (1, 4), (1, 5), (1, 6), (1, 7), (1, 8), (1, 9), (1, 10), (1, 11), (1, 12), (1, 16)]) _
  refine p_putR (n := 12) (v := 21) (m := 21) (a := 20) (L' := [(20, 1), (15, 2), (15, 3), (1, 2), (1, 3), (1, 4), (1, 5), (1, 6), (1, 7), (1, 8), (1, 9), (1, 10), (1, 11), (1, 12), (1, 16)]) 0 (by decide) (by decide +kernel) (by decide +kernel) cls_8 fi_8_0 (Or.inr ⟨rfl, rfl, rfl⟩) (fun _ => ⟨rfl, rfl⟩) (ps_obj (by decide +kernel)) gw_113 dX9_init_9 rfl ?_
  refine r_aload_n (n := 13) 0 dX9_init_12 rfl rfl ?_
  refine r_iconst (n := 14) (v := (-1)) dX9_init_13 (by decide) rfl ?_
  refine p_putI (n := 17) (m := 21) (a := 20) (L' := [(15, 2), (15, 3), (1, 2), (1, 3), (1, 4), (1, 5), (1, 6), (1, 7), (1, 8), (1, 9), (1, 10), (1, 11), (1, 12), (1, 16)]) 1 (by decide +kernel) (by decide +kernel) cls_8 fp_8_1 (ps_obj (by decide +kernel)) gw_114 dX9_init_14 rfl ?_
  exact r_vret (st := []) dX9_init_17 rfl rfl
set_option maxRecDepth 20000 in
theorem k_22 {g : OG} {d : Nat} : OCall g (d + 1) 1 60 iX9_init [.ref (og_b g + 22)] (PS 22 [(22, 0), (22, 1), (15, 3), (1, 2), (1, 3), (1, 4), (1, 5), (1, 6), (1, 7), (1, 8), (1, 9), (1, 10), (1, 11), (1, 12), (1, 16)]) (QV (fun h' => h' = PS 23 [(15, 3), (1, 2), (1, 3), (1, 4), (1, 5), (1, 6), (1, 7), (1, 8), (1, 9), (1, 10), (1, 11), (1, 12), (1, 16)])) := by
  refine ocall_of (by decide) (Nat.le_of_ble_eq_true rfl) ?_
  show ORuns g (d + 1) 1 60 iX9_init 0 [(0, .ref (og_b g + 22))] [] (PS 22 [(22, 0), (22, 1), (15, 3), (1, 2), (1, 3), (1, 4), (1, 5), (1, 6), (1, 7), (1, 8), (1, 9), (1, 10), (1, 11), (1, 12), (1, 16)]) _
  refine r_aload_n (n := 1) 0 dX9_init_0 rfl rfl ?_
  refine r_objInit (n := 4) gw_112 ⟨gw_85, gw_86⟩ (Nat.le_of_ble_eq_true rfl) dX9_init_1 rfl ?_
  refine r_aload_n (n := 5) 0 dX9_init_4 rfl rfl ?_
  refine r_bipush (n := 7) (v := 60) dX9_init_5 (by decide) rfl ?_
  refine p_newarr (n := 9) (m := 22) (L' := [(22, 0), (22, 1), (15, 3), (1, 2), (1, 3), (1, 4), (1, 5), (1, 6), (1, 7), (1, 8), (1, 9), (1, 10), (1, 11), (1, 12), (1, 16)]) (t := 12) (i0 := 1) (fty := .byte) (z := 60) (Z := 60) (mc := 0) (ms := 0) (by decide +kernel) (by decide +kernel) rfl (by decide) (fun _ => rfl) rfl na_byte gw_121 (by decide) dX9_init_7 rfl ?_
  show ORuns g (d + 1) 0 0 iX9_init 9 [(0, .ref (og_b g + 22))] [.ref (og_b g + 23), .ref (og_b g + 22)] (PS 23 [(22, 0), (22, 1), (15, 3), (1, 2), (1, 3), (1, 4), (1, 5), (1, 6), (1, 7), (1, 8), (1, 9), (1, 10), (1, 11), (1, 12), (1, 16)]) _
  refine p_putR (n := 12) (v := 23) (m := 23) (a := 22) (L' := [(22, 1), (15, 3), (1, 2), (1, 3), (1, 4), (1, 5), (1, 6), (1, 7), (1, 8), (1, 9), (1, 10), (1, 11), (1, 12), (1, 16)]) 0 (by decide) (by decide +kernel) (by decide +kernel) cls_8 fi_8_0 (Or.inr ⟨rfl, rfl, rfl⟩) (fun _ => ⟨rfl, rfl⟩) (ps_obj (by decide +kernel)) gw_113 dX9_init_9 rfl ?_
  refine r_aload_n (n := 13) 0 dX9_init_12 rfl rfl ?_
  refine r_iconst (n := 14) (v := (-1)) dX9_init_13 (by decide) rfl ?_
  refine p_putI (n := 17) (m := 23) (a := 22) (L' := [(15, 3), (1, 2), (1, 3), (1, 4), (1, 5), (1, 6), (1, 7), (1, 8), (1, 9), (1, 10), (1, 11), (1, 12), (1, 16)]) 1 (by decide +kernel) (by decide +kernel) cls_8 fp_8_1 (ps_obj (by decide +kernel)) gw_114 dX9_init_14 rfl ?_
  exact r_vret (st := []) dX9_init_17 rfl rfl
set_option maxRecDepth 20000 in
theorem k_24 {g : OG} {d : Nat} : OCall g (d + 1) 3 16 iX3_init [.ref (og_b g + 24)] (PS 24 [(24, 0), (24, 1), (24, 2), (1, 2), (1, 3), (1, 4), (1, 5), (1, 6), (1, 7), (1, 8), (1, 9), (1, 10), (1, 11), (1, 12), (1, 16)]) (QV (fun h' => h' = PS 27 [(1, 2), (1, 3), (1, 4), (1, 5), (1, 6), (1, 7), (1, 8), (1, 9), (1, 10), (1, 11), (1, 12), (1, 16)])) := by
  refine ocall_of (by decide) (Nat.le_of_ble_eq_true rfl) ?_
  show ORuns g (d + 1) 3 16 iX3_init 0 [(0, .ref (og_b g + 24))] [] (PS 24 [(24, 0), (24, 1), (24, 2), (1, 2), (1, 3), (1, 4), (1, 5), (1, 6), (1, 7), (1, 8), (1, 9), (1, 10), (1, 11), (1, 12), (1, 16)]) _
  refine r_aload_n (n := 1) 0 dX3_init_0 rfl rfl ?_
  refine r_objInit (n := 4) gw_127 ⟨gw_85, gw_86⟩ (Nat.le_of_ble_eq_true rfl) dX3_init_1 rfl ?_
  refine r_aload_n (n := 5) 0 dX3_init_4 rfl rfl ?_
  refine r_iconst (n := 6) (v := 5) dX3_init_5 (by decide) rfl ?_
  refine p_newarr (n := 8) (m := 24) (L' := [(24, 0), (24, 1), (24, 2), (1, 2), (1, 3), (1, 4), (1, 5), (1, 6), (1, 7), (1, 8), (1, 9), (1, 10), (1, 11), (1, 12), (1, 16)]) (t := 11) (i0 := 0) (fty := .int) (z := 5) (Z := 5) (mc := 2) (ms := 11) (by decide +kernel) (by decide +kernel) rfl (by decide) (fun _ => rfl) rfl na_int gw_105 (by decide) dX3_init_6 rfl ?_
  show ORuns g (d + 1) 2 11 iX3_init 8 [(0, .ref (og_b g + 24))] [.ref (og_b g + 25), .ref (og_b g + 24)] (PS 25 [(24, 0), (24, 1), (24, 2), (1, 2), (1, 3), (1, 4), (1, 5), (1, 6), (1, 7), (1, 8), (1, 9), (1, 10), (1, 11), (1, 12), (1, 16)]) _
  refine p_putR (n := 11) (v := 25) (m := 25) (a := 24) (L' := [(24, 1), (24, 2), (1, 2), (1, 3), (1, 4), (1, 5), (1, 6), (1, 7), (1, 8), (1, 9), (1, 10), (1, 11), (1, 12), (1, 16)]) 0 (by decide) (by decide +kernel) (by decide +kernel) cls_2 fi_2_0 (Or.inr ⟨rfl, rfl, rfl⟩) (fun _ => ⟨rfl, rfl⟩) (ps_obj (by decide +kernel)) gw_128 dX3_init_8 rfl ?_
  refine r_aload_n (n := 12) 0 dX3_init_11 rfl rfl ?_
  refine r_iconst (n := 13) (v := 5) dX3_init_12 (by decide) rfl ?_
  refine p_newarr (n := 15) (m := 25) (L' := [(24, 1), (24, 2), (1, 2), (1, 3), (1, 4), (1, 5), (1, 6), (1, 7), (1, 8), (1, 9), (1, 10), (1, 11), (1, 12), (1, 16)]) (t := 11) (i0 := 0) (fty := .int) (z := 5) (Z := 5) (mc := 1) (ms := 6) (by decide +kernel) (by decide +kernel) rfl (by decide) (fun _ => rfl) rfl na_int gw_105 (by decide) dX3_init_13 rfl ?_
  show ORuns g (d + 1) 1 6 iX3_init 15 [(0, .ref (og_b g + 24))] [.ref (og_b g + 26), .ref (og_b g + 24)] (PS 26 [(24, 1), (24, 2), (1, 2), (1, 3), (1, 4), (1, 5), (1, 6), (1, 7), (1, 8), (1, 9), (1, 10), (1, 11), (1, 12), (1, 16)]) _
  refine p_putR (n := 18) (v := 26) (m := 26) (a := 24) (L' := [(24, 2), (1, 2), (1, 3), (1, 4), (1, 5), (1, 6), (1, 7), (1, 8), (1, 9), (1, 10), (1, 11), (1, 12), (1, 16)]) 1 (by decide) (by decide +kernel) (by decide +kernel) cls_2 fi_2_1 (Or.inr ⟨rfl, rfl, rfl⟩) (fun _ => ⟨rfl, rfl⟩) (ps_obj (by decide +kernel)) gw_130 dX3_init_15 rfl ?_
  refine r_aload_n (n := 19) 0 dX3_init_18 rfl rfl ?_
  refine r_bipush (n := 21) (v := 6) dX3_init_19 (by decide) rfl ?_
  refine p_newarr (n := 23) (m := 26) (L' := [(24, 2), (1, 2), (1, 3), (1, 4), (1, 5), (1, 6), (1, 7), (1, 8), (1, 9), (1, 10), (1, 11), (1, 12), (1, 16)]) (t := 11) (i0 := 0) (fty := .int) (z := 6) (Z := 6) (mc := 0) (ms := 0) (by decide +kernel) (by decide +kernel) rfl (by decide) (fun _ => rfl) rfl na_int gw_105 (by decide) dX3_init_21 rfl ?_
  show ORuns g (d + 1) 0 0 iX3_init 23 [(0, .ref (og_b g + 24))] [.ref (og_b g + 27), .ref (og_b g + 24)] (PS 27 [(24, 2), (1, 2), (1, 3), (1, 4), (1, 5), (1, 6), (1, 7), (1, 8), (1, 9), (1, 10), (1, 11), (1, 12), (1, 16)]) _
  refine p_putR (n := 26) (v := 27) (m := 27) (a := 24) (L' := [(1, 2), (1, 3), (1, 4), (1, 5), (1, 6), (1, 7), (1, 8), (1, 9), (1, 10), (1, 11), (1, 12), (1, 16)]) 2 (by decide) (by decide +kernel) (by decide +kernel) cls_2 fi_2_2 (Or.inr ⟨rfl, rfl, rfl⟩) (fun _ => ⟨rfl, rfl⟩) (ps_obj (by decide +kernel)) gw_132 dX3_init_23 rfl ?_
  refine r_aload_n (n := 27) 0 dX3_init_26 rfl rfl ?_
  refine r_iconst (n := 28) (v := 0) dX3_init_27 (by decide) rfl ?_
  refine p_putI (n := 31) (m := 27) (a := 24) (L' := [(1, 2), (1, 3), (1, 4), (1, 5), (1, 6), (1, 7), (1, 8), (1, 9), (1, 10), (1, 11), (1, 12), (1, 16)]) 3 (by decide +kernel) (by decide +kernel) cls_2 fp_2_3 (ps_obj (by decide +kernel)) gw_133 dX3_init_28 rfl ?_
  refine r_aload_n (n := 32) 0 dX3_init_31 rfl rfl ?_
  refine r_iconst (n := 33) (v := 0) dX3_init_32 (by decide) rfl ?_
  refine p_putI (n := 36) (m := 27) (a := 24) (L' := [(1, 2), (1, 3), (1, 4), (1, 5), (1, 6), (1, 7), (1, 8), (1, 9), (1, 10), (1, 11), (1, 12), (1, 16)]) 4 (by decide +kernel) (by decide +kernel) cls_2 fp_2_4 (ps_obj (by decide +kernel)) gw_134 dX3_init_33 rfl ?_
  exact r_vret (st := []) dX3_init_36 rfl rfl
set_option maxRecDepth 20000 in
theorem k_30 {g : OG} {d : Nat} : OCall g (d + 1) 2 10 iX1_init [.ref (og_b g + 30), .ref (og_b g + 24)] (PS 30 [(30, 0), (30, 1), (30, 2), (28, 0), (28, 1), (1, 3), (1, 4), (1, 5), (1, 6), (1, 7), (1, 8), (1, 9), (1, 10), (1, 11), (1, 12), (1, 16)]) (QV (fun h' => h' = PS 32 [(28, 0), (28, 1), (1, 3), (1, 4), (1, 5), (1, 6), (1, 7), (1, 8), (1, 9), (1, 10), (1, 11), (1, 12), (1, 16)])) := by
  refine ocall_of (by decide) (Nat.le_of_ble_eq_true rfl) ?_
  show ORuns g (d + 1) 2 10 iX1_init 0 [(0, .ref (og_b g + 30)), (1, .ref (og_b g + 24))] [] (PS 30 [(30, 0), (30, 1), (30, 2), (28, 0), (28, 1), (1, 3), (1, 4), (1, 5), (1, 6), (1, 7), (1, 8), (1, 9), (1, 10), (1, 11), (1, 12), (1, 16)]) _
  refine r_aload_n (n := 1) 0 dX1_init_0 rfl rfl ?_
  refine r_objInit (n := 4) gw_161 ⟨gw_85, gw_86⟩ (Nat.le_of_ble_eq_true rfl) dX1_init_1 rfl ?_
  refine r_aload_n (n := 5) 0 dX1_init_4 rfl rfl ?_
  refine r_iconst (n := 6) (v := 5) dX1_init_5 (by decide) rfl ?_
  refine p_newarr (n := 8) (m := 30) (L' := [(30, 0), (30, 1), (30, 2), (28, 0), (28, 1), (1, 3), (1, 4), (1, 5), (1, 6), (1, 7), (1, 8), (1, 9), (1, 10), (1, 11), (1, 12), (1, 16)]) (t := 11) (i0 := 0) (fty := .int) (z := 5) (Z := 5) (mc := 1) (ms := 5) (by decide +kernel) (by decide +kernel) rfl (by decide) (fun _ => rfl) rfl na_int gw_105 (by decide) dX1_init_6 rfl ?_
  show ORuns g (d + 1) 1 5 iX1_init 8 [(0, .ref (og_b g + 30)), (1, .ref (og_b g + 24))] [.ref (og_b g + 31), .ref (og_b g + 30)] (PS 31 [(30, 0), (30, 1), (30, 2), (28, 0), (28, 1), (1, 3), (1, 4), (1, 5), (1, 6), (1, 7), (1, 8), (1, 9), (1, 10), (1, 11), (1, 12), (1, 16)]) _
  refine p_putR (n := 11) (v := 31) (m := 31) (a := 30) (L' := [(30, 0), (30, 2), (28, 0), (28, 1), (1, 3), (1, 4), (1, 5), (1, 6), (1, 7), (1, 8), (1, 9), (1, 10), (1, 11), (1, 12), (1, 16)]) 1 (by decide) (by decide +kernel) (by decide +kernel) cls_1 fi_1_1 (Or.inr ⟨rfl, rfl, rfl⟩) (fun _ => ⟨rfl, rfl⟩) (ps_obj (by decide +kernel)) gw_163 dX1_init_8 rfl ?_
  refine r_aload_n (n := 12) 0 dX1_init_11 rfl rfl ?_
  refine r_iconst (n := 13) (v := 5) dX1_init_12 (by decide) rfl ?_
  refine p_newarr (n := 15) (m := 31) (L' := [(30, 0), (30, 2), (28, 0), (28, 1), (1, 3), (1, 4), (1, 5), (1, 6), (1, 7), (1, 8), (1, 9), (1, 10), (1, 11), (1, 12), (1, 16)]) (t := 11) (i0 := 0) (fty := .int) (z := 5) (Z := 5) (mc := 0) (ms := 0) (by decide +kernel) (by decide +kernel) rfl (by decide) (fun _ => rfl) rfl na_int gw_105 (by decide) dX1_init_13 rfl ?_
  show ORuns g (d + 1) 0 0 iX1_init 15 [(0, .ref (og_b g + 30)), (1, .ref (og_b g + 24))] [.ref (og_b g + 32), .ref (og_b g + 30)] (PS 32 [(30, 0), (30, 2), (28, 0), (28, 1), (1, 3), (1, 4), (1, 5), (1, 6), (1, 7), (1, 8), (1, 9), (1, 10), (1, 11), (1, 12), (1, 16)]) _
  refine p_putR (n := 18) (v := 32) (m := 32) (a := 30) (L' := [(30, 0), (28, 0), (28, 1), (1, 3), (1, 4), (1, 5), (1, 6), (1, 7), (1, 8), (1, 9), (1, 10), (1, 11), (1, 12), (1, 16)]) 2 (by decide) (by decide +kernel) (by decide +kernel) cls_1 fi_1_2 (Or.inr ⟨rfl, rfl, rfl⟩) (fun _ => ⟨rfl, rfl⟩) (ps_obj (by decide +kernel)) gw_164 dX1_init_15 rfl ?_
  refine r_aload_n (n := 19) 0 dX1_init_18 rfl rfl ?_
  refine r_iconst (n := 20) (v := 0) dX1_init_19 (by decide) rfl ?_
  refine p_putI (n := 23) (m := 32) (a := 30) (L' := [(30, 0), (28, 0), (28, 1), (1, 3), (1, 4), (1, 5), (1, 6), (1, 7), (1, 8), (1, 9), (1, 10), (1, 11), (1, 12), (1, 16)]) 3 (by decide +kernel) (by decide +kernel) cls_1 fp_1_3 (ps_obj (by decide +kernel)) gw_165 dX1_init_20 rfl ?_
  refine r_aload_n (n := 24) 0 dX1_init_23 rfl rfl ?_
  refine r_iconst (n := 25) (v := 0) dX1_init_24 (by decide) rfl ?_
  refine p_putI (n := 28) (m := 32) (a := 30) (L' := [(30, 0), (28, 0), (28, 1), (1, 3), (1, 4), (1, 5), (1, 6), (1, 7), (1, 8), (1, 9), (1, 10), (1, 11), (1, 12), (1, 16)]) 4 (by decide +kernel) (by decide +kernel) cls_1 fp_1_4 (ps_obj (by decide +kernel)) gw_169 dX1_init_25 rfl ?_
  refine r_aload_n (n := 29) 0 dX1_init_28 rfl rfl ?_
  refine r_iconst (n := 30) (v := 0) dX1_init_29 (by decide) rfl ?_
  refine p_putZ (n := 33) (m := 32) (a := 30) (L' := [(30, 0), (28, 0), (28, 1), (1, 3), (1, 4), (1, 5), (1, 6), (1, 7), (1, 8), (1, 9), (1, 10), (1, 11), (1, 12), (1, 16)]) 5 (by decide) (by decide +kernel) (by decide +kernel) cls_1 fp_1_5 (ps_obj (by decide +kernel)) gw_171 dX1_init_30 rfl ?_
  refine r_aload_n (n := 34) 0 dX1_init_33 rfl rfl ?_
  refine r_iconst (n := 35) (v := 0) dX1_init_34 (by decide) rfl ?_
  refine p_putZ (n := 38) (m := 32) (a := 30) (L' := [(30, 0), (28, 0), (28, 1), (1, 3), (1, 4), (1, 5), (1, 6), (1, 7), (1, 8), (1, 9), (1, 10), (1, 11), (1, 12), (1, 16)]) 6 (by decide) (by decide +kernel) (by decide +kernel) cls_1 fp_1_6 (ps_obj (by decide +kernel)) gw_173 dX1_init_35 rfl ?_
  refine r_aload_n (n := 39) 0 dX1_init_38 rfl rfl ?_
  refine r_aload_n (n := 40) 1 dX1_init_39 rfl rfl ?_
  refine p_putR (n := 43) (v := 24) (m := 32) (a := 30) (L' := [(28, 0), (28, 1), (1, 3), (1, 4), (1, 5), (1, 6), (1, 7), (1, 8), (1, 9), (1, 10), (1, 11), (1, 12), (1, 16)]) 0 (by decide) (by decide +kernel) (by decide +kernel) cls_1 fi_1_0 (Or.inr ⟨rfl, rfl, rfl⟩) (fun _ => ⟨rfl, rfl⟩) (ps_obj (by decide +kernel)) gw_162 dX1_init_40 rfl ?_
  exact r_vret (st := []) dX1_init_43 rfl rfl
set_option maxRecDepth 20000 in
theorem k_33 {g : OG} {d : Nat} : OCall g (d + 1) 2 10 iX1_init [.ref (og_b g + 33), .ref (og_b g + 24)] (PS 33 [(33, 0), (33, 1), (33, 2), (28, 1), (1, 3), (1, 4), (1, 5), (1, 6), (1, 7), (1, 8), (1, 9), (1, 10), (1, 11), (1, 12), (1, 16)]) (QV (fun h' => h' = PS 35 [(28, 1), (1, 3), (1, 4), (1, 5), (1, 6), (1, 7), (1, 8), (1, 9), (1, 10), (1, 11), (1, 12), (1, 16)])) := by
  refine ocall_of (by decide) (Nat.le_of_ble_eq_true rfl) ?_
  show ORuns g (d + 1) 2 10 iX1_init 0 [(0, .ref (og_b g + 33)), (1, .ref (og_b g + 24))] [] (PS 33 [(33, 0), (33, 1), (33, 2), (28, 1), (1, 3), (1, 4), (1, 5), (1, 6), (1, 7), (1, 8), (1, 9), (1, 10), (1, 11), (1, 12), (1, 16)]) _
  refine r_aload_n (n := 1) 0 dX1_init_0 rfl rfl ?_
  refine r_objInit (n := 4) gw_161 ⟨gw_85, gw_86⟩ (Nat.le_of_ble_eq_true rfl) dX1_init_1 rfl ?_
  refine r_aload_n (n := 5) 0 dX1_init_4 rfl rfl ?_
  refine r_iconst (n := 6) (v := 5) dX1_init_5 (by decide) rfl ?_
  refine p_newarr (n := 8) (m := 33) (L' := [(33, 0), (33, 1), (33, 2), (28, 1), (1, 3), (1, 4), (1, 5), (1, 6), (1, 7), (1, 8), (1, 9), (1, 10), (1, 11), (1, 12), (1, 16)]) (t := 11) (i0 := 0) (fty := .int) (z := 5) (Z := 5) (mc := 1) (ms := 5) (by decide +kernel) (by decide +kernel) rfl (by decide) (fun _ => rfl) rfl na_int gw_105 (by decide) dX1_init_6 rfl ?_
  show ORuns g (d + 1) 1 5 iX1_init 8 [(0, .ref (og_b g + 33)), (1, .ref (og_b g + 24))] [.ref (og_b g + 34), .ref (og_b g + 33)] (PS 34 [(33, 0), (33, 1), (33, 2), (28, 1), (1, 3), (1, 4), (1, 5), (1, 6), (1, 7), (1, 8), (1, 9), (1, 10), (1, 11), (1, 12), (1, 16)]) _
  refine p_putR (n := 11) (v := 34) (m := 34) (a := 33) (L' := [(33, 0), (33, 2), (28, 1), (1, 3), (1, 4), (1, 5), (1, 6), (1, 7), (1, 8), (1, 9), (1, 10), (1, 11), (1, 12), (1, 16)]) 1 (by decide) (by decide +kernel) (by decide +kernel) cls_1 fi_1_1 (Or.inr ⟨rfl, rfl, rfl⟩) (fun _ => ⟨rfl, rfl⟩) (ps_obj (by decide +kernel)) gw_163 dX1_init_8 rfl ?_
  refine r_aload_n (n := 12) 0 dX1_init_11 rfl rfl ?_
  refine r_iconst (n := 13) (v := 5) dX1_init_12 (by decide) rfl ?_
  refine p_newarr (n := 15) (m := 34) (L' := [(33, 0), (33, 2), (28, 1), (1, 3), (1, 4), (1, 5), (1, 6), (1, 7), (1, 8), (1, 9), (1, 10), (1, 11), (1, 12), (1, 16)]) (t := 11) (i0 := 0) (fty := .int) (z := 5) (Z := 5) (mc := 0) (ms := 0) (by decide +kernel) (by decide +kernel) rfl (by decide) (fun _ => rfl) rfl na_int gw_105 (by decide) dX1_init_13 rfl ?_
  show ORuns g (d + 1) 0 0 iX1_init 15 [(0, .ref (og_b g + 33)), (1, .ref (og_b g + 24))] [.ref (og_b g + 35), .ref (og_b g + 33)] (PS 35 [(33, 0), (33, 2), (28, 1), (1, 3), (1, 4), (1, 5), (1, 6), (1, 7), (1, 8), (1, 9), (1, 10), (1, 11), (1, 12), (1, 16)]) _
  refine p_putR (n := 18) (v := 35) (m := 35) (a := 33) (L' := [(33, 0), (28, 1), (1, 3), (1, 4), (1, 5), (1, 6), (1, 7), (1, 8), (1, 9), (1, 10), (1, 11), (1, 12), (1, 16)]) 2 (by decide) (by decide +kernel) (by decide +kernel) cls_1 fi_1_2 (Or.inr ⟨rfl, rfl, rfl⟩) (fun _ => ⟨rfl, rfl⟩) (ps_obj (by decide +kernel)) gw_164 dX1_init_15 rfl ?_
  refine r_aload_n (n := 19) 0 dX1_init_18 rfl rfl ?_
  refine r_iconst (n := 20) (v := 0) dX1_init_19 (by decide) rfl ?_
  refine p_putI (n := 23) (m := 35) (a := 33) (L' := [(33, 0), (28, 1), (1, 3), (1, 4), (1, 5), (1, 6), (1, 7), (1, 8), (1, 9), (1, 10), (1, 11), (1, 12), (1, 16)]) 3 (by decide +kernel) (by decide +kernel) cls_1 fp_1_3 (ps_obj (by decide +kernel)) gw_165 dX1_init_20 rfl ?_
  refine r_aload_n (n := 24) 0 dX1_init_23 rfl rfl ?_
  refine r_iconst (n := 25) (v := 0) dX1_init_24 (by decide) rfl ?_
  refine p_putI (n := 28) (m := 35) (a := 33) (L' := [(33, 0), (28, 1), (1, 3), (1, 4), (1, 5), (1, 6), (1, 7), (1, 8), (1, 9), (1, 10), (1, 11), (1, 12), (1, 16)]) 4 (by decide +kernel) (by decide +kernel) cls_1 fp_1_4 (ps_obj (by decide +kernel)) gw_169 dX1_init_25 rfl ?_
  refine r_aload_n (n := 29) 0 dX1_init_28 rfl rfl ?_
  refine r_iconst (n := 30) (v := 0) dX1_init_29 (by decide) rfl ?_
  refine p_putZ (n := 33) (m := 35) (a := 33) (L' := [(33, 0), (28, 1), (1, 3), (1, 4), (1, 5), (1, 6), (1, 7), (1, 8), (1, 9), (1, 10), (1, 11), (1, 12), (1, 16)]) 5 (by decide) (by decide +kernel) (by decide +kernel) cls_1 fp_1_5 (ps_obj (by decide +kernel)) gw_171 dX1_init_30 rfl ?_
  refine r_aload_n (n := 34) 0 dX1_init_33 rfl rfl ?_
  refine r_iconst (n := 35) (v := 0) dX1_init_34 (by decide) rfl ?_
  refine p_putZ (n := 38) (m := 35) (a := 33) (L' := [(33, 0), (28, 1), (1, 3), (1, 4), (1, 5), (1, 6), (1, 7), (1, 8), (1, 9), (1, 10), (1, 11), (1, 12), (1, 16)]) 6 (by decide) (by decide +kernel) (by decide +kernel) cls_1 fp_1_6 (ps_obj (by decide +kernel)) gw_173 dX1_init_35 rfl ?_
  refine r_aload_n (n := 39) 0 dX1_init_38 rfl rfl ?_
  refine r_aload_n (n := 40) 1 dX1_init_39 rfl rfl ?_
  refine p_putR (n := 43) (v := 24) (m := 35) (a := 33) (L' := [(28, 1), (1, 3), (1, 4), (1, 5), (1, 6), (1, 7), (1, 8), (1, 9), (1, 10), (1, 11), (1, 12), (1, 16)]) 0 (by decide) (by decide +kernel) (by decide +kernel) cls_1 fi_1_0 (Or.inr ⟨rfl, rfl, rfl⟩) (fun _ => ⟨rfl, rfl⟩) (ps_obj (by decide +kernel)) gw_162 dX1_init_40 rfl ?_
  exact r_vret (st := []) dX1_init_43 rfl rfl
set_option maxRecDepth 20000 in
theorem k_28 {g : OG} {d : Nat} : OCall g (d + 2) 7 74 iX0_init [.ref (og_b g + 28), .ref (og_b g + 24)] (PS 28 [(28, 0), (28, 1), (28, 2), (1, 3), (1, 4), (1, 5), (1, 6), (1, 7), (1, 8), (1, 9), (1, 10), (1, 11), (1, 12), (1, 16)]) (QV (fun h' => h' = PS 35 [(1, 3), (1, 4), (1, 5), (1, 6), (1, 7), (1, 8), (1, 9), (1, 10), (1, 11), (1, 12), (1, 16)])) := by
  refine ocall_of (by decide) (Nat.le_of_ble_eq_true rfl) ?_
  show ORuns g (d + 2) 7 74 iX0_init 0 [(0, .ref (og_b g + 28)), (1, .ref (og_b g + 24))] [] (PS 28 [(28, 0), (28, 1), (28, 2), (1, 3), (1, 4), (1, 5), (1, 6), (1, 7), (1, 8), (1, 9), (1, 10), (1, 11), (1, 12), (1, 16)]) _
  refine r_aload_n (n := 1) 0 dX0_init_0 rfl rfl ?_
  refine r_objInit (n := 4) gw_155 ⟨gw_85, gw_86⟩ (Nat.le_of_ble_eq_true rfl) dX0_init_1 rfl ?_
  refine r_aload_n (n := 5) 0 dX0_init_4 rfl rfl ?_
  refine r_bipush (n := 7) (v := 40) dX0_init_5 (by decide) rfl ?_
  refine p_newarr (n := 9) (m := 28) (L' := [(28, 0), (28, 1), (28, 2), (1, 3), (1, 4), (1, 5), (1, 6), (1, 7), (1, 8), (1, 9), (1, 10), (1, 11), (1, 12), (1, 16)]) (t := 11) (i0 := 0) (fty := .int) (z := 40) (Z := 40) (mc := 6) (ms := 34) (by decide +kernel) (by decide +kernel) rfl (by decide) (fun _ => rfl) rfl na_int gw_105 (by decide) dX0_init_7 rfl ?_
  show ORuns g (d + 2) 6 34 iX0_init 9 [(0, .ref (og_b g + 28)), (1, .ref (og_b g + 24))] [.ref (og_b g + 29), .ref (og_b g + 28)] (PS 29 [(28, 0), (28, 1), (28, 2), (1, 3), (1, 4), (1, 5), (1, 6), (1, 7), (1, 8), (1, 9), (1, 10), (1, 11), (1, 12), (1, 16)]) _
  refine p_putR (n := 12) (v := 29) (m := 29) (a := 28) (L' := [(28, 0), (28, 1), (1, 3), (1, 4), (1, 5), (1, 6), (1, 7), (1, 8), (1, 9), (1, 10), (1, 11), (1, 12), (1, 16)]) 2 (by decide) (by decide +kernel) (by decide +kernel) cls_0 fi_0_2 (Or.inr ⟨rfl, rfl, rfl⟩) (fun _ => ⟨rfl, rfl⟩) (ps_obj (by decide +kernel)) gw_193 dX0_init_9 rfl ?_
  refine r_aload_n (n := 13) 0 dX0_init_12 rfl rfl ?_
  refine r_iconst (n := 14) (v := 0) dX0_init_13 (by decide) rfl ?_
  refine p_putI (n := 17) (m := 29) (a := 28) (L' := [(28, 0), (28, 1), (1, 3), (1, 4), (1, 5), (1, 6), (1, 7), (1, 8), (1, 9), (1, 10), (1, 11), (1, 12), (1, 16)]) 3 (by decide +kernel) (by decide +kernel) cls_0 fp_0_3 (ps_obj (by decide +kernel)) gw_194 dX0_init_14 rfl ?_
  refine r_aload_n (n := 18) 0 dX0_init_17 rfl rfl ?_
  refine r_iconst (n := 19) (v := 0) dX0_init_18 (by decide) rfl ?_
  refine p_putZ (n := 22) (m := 29) (a := 28) (L' := [(28, 0), (28, 1), (1, 3), (1, 4), (1, 5), (1, 6), (1, 7), (1, 8), (1, 9), (1, 10), (1, 11), (1, 12), (1, 16)]) 4 (by decide) (by decide +kernel) (by decide +kernel) cls_0 fp_0_4 (ps_obj (by decide +kernel)) gw_196 dX0_init_19 rfl ?_
  refine r_aload_n (n := 23) 0 dX0_init_22 rfl rfl ?_
  refine p_new (n := 26) (m := 29) (L' := [(30, 0), (30, 1), (30, 2), (28, 0), (28, 1), (1, 3), (1, 4), (1, 5), (1, 6), (1, 7), (1, 8), (1, 9), (1, 10), (1, 11), (1, 12), (1, 16)]) (mc := 5) (ms := 27) (by decide +kernel) (by decide +kernel) cls_1 ⟨gw_156, gw_157, gw_69⟩ dv_1 dX0_init_23 rfl ?_
  show ORuns g (d + 2) 5 27 iX0_init 26 [(0, .ref (og_b g + 28)), (1, .ref (og_b g + 24))] [.ref (og_b g + 30), .ref (og_b g + 28)] (PS 30 [(30, 0), (30, 1), (30, 2), (28, 0), (28, 1), (1, 3), (1, 4), (1, 5), (1, 6), (1, 7), (1, 8), (1, 9), (1, 10), (1, 11), (1, 12), (1, 16)]) _
  refine r_dup (n := 27) dX0_init_26 rfl rfl ?_
  refine r_aload_n (n := 28) 1 dX0_init_27 rfl rfl ?_
  refine r_callI (n := 31) (a := 30) (mc' := 2) (ms' := 10) (mc := 3) (ms := 17) (As := [.ref (og_b g + 24)]) (rest := [.ref (og_b g + 30), .ref (og_b g + 28)]) cm_X1_init gw_158 rfl (Nat.le_of_ble_eq_true rfl) dX0_init_28 rfl (ocall_mono (fun v h' e => ?_) (k_30))
  obtain ⟨rfl, rfl⟩ := e
  show ORuns g (d + 2) 3 17 iX0_init 31 [(0, .ref (og_b g + 28)), (1, .ref (og_b g + 24))] [.ref (og_b g + 30), .ref (og_b g + 28)] (PS 32 [(28, 0), (28, 1), (1, 3), (1, 4), (1, 5), (1, 6), (1, 7), (1, 8), (1, 9), (1, 10), (1, 11), (1, 12), (1, 16)]) _
  refine p_putR (n := 34) (v := 30) (m := 32) (a := 28) (L' := [(28, 1), (1, 3), (1, 4), (1, 5), (1, 6), (1, 7), (1, 8), (1, 9), (1, 10), (1, 11), (1, 12), (1, 16)]) 0 (by decide) (by decide +kernel) (by decide +kernel) cls_0 fi_0_0 (Or.inr ⟨rfl, rfl, rfl⟩) (fun _ => ⟨rfl, rfl⟩) (ps_obj (by decide +kernel)) gw_189 dX0_init_31 rfl ?_
  refine r_aload_n (n := 35) 0 dX0_init_34 rfl rfl ?_
  refine p_new (n := 38) (m := 32) (L' := [(33, 0), (33, 1), (33, 2), (28, 1), (1, 3), (1, 4), (1, 5), (1, 6), (1, 7), (1, 8), (1, 9), (1, 10), (1, 11), (1, 12), (1, 16)]) (mc := 2) (ms := 10) (by decide +kernel) (by decide +kernel) cls_1 ⟨gw_156, gw_157, gw_69⟩ dv_1 dX0_init_35 rfl ?_
  show ORuns g (d + 2) 2 10 iX0_init 38 [(0, .ref (og_b g + 28)), (1, .ref (og_b g + 24))] [.ref (og_b g + 33), .ref (og_b g + 28)] (PS 33 [(33, 0), (33, 1), (33, 2), (28, 1), (1, 3), (1, 4), (1, 5), (1, 6), (1, 7), (1, 8), (1, 9), (1, 10), (1, 11), (1, 12), (1, 16)]) _
  refine r_dup (n := 39) dX0_init_38 rfl rfl ?_
  refine r_aload_n (n := 40) 1 dX0_init_39 rfl rfl ?_
  refine r_callI (n := 43) (a := 33) (mc' := 2) (ms' := 10) (mc := 0) (ms := 0) (As := [.ref (og_b g + 24)]) (rest := [.ref (og_b g + 33), .ref (og_b g + 28)]) cm_X1_init gw_158 rfl (Nat.le_of_ble_eq_true rfl) dX0_init_40 rfl (ocall_mono (fun v h' e => ?_) (k_33))
  obtain ⟨rfl, rfl⟩ := e
  show ORuns g (d + 2) 0 0 iX0_init 43 [(0, .ref (og_b g + 28)), (1, .ref (og_b g + 24))] [.ref (og_b g + 33), .ref (og_b g + 28)] (PS 35 [(28, 1), (1, 3), (1, 4), (1, 5), (1, 6), (1, 7), (1, 8), (1, 9), (1, 10), (1, 11), (1, 12), (1, 16)]) _
  refine p_putR (n := 46) (v := 33) (m := 35) (a := 28) (L' := [(1, 3), (1, 4), (1, 5), (1, 6), (1, 7), (1, 8), (1, 9), (1, 10), (1, 11), (1, 12), (1, 16)]) 1 (by decide) (by decide +kernel) (by decide +kernel) cls_0 fi_0_1 (Or.inr ⟨rfl, rfl, rfl⟩) (fun _ => ⟨rfl, rfl⟩) (ps_obj (by decide +kernel)) gw_191 dX0_init_43 rfl ?_
  exact r_vret (st := []) dX0_init_46 rfl rfl
set_option maxRecDepth 20000 in
theorem k_39 {g : OG} {d : Nat} : OCall g (d + 1) 2 10 iX1_init [.ref (og_b g + 39), .ref (og_b g + 24)] (PS 39 [(39, 0), (39, 1), (39, 2), (37, 0), (37, 1), (36, 0), (36, 1), (36, 2), (1, 5), (1, 6), (1, 7), (1, 8), (1, 9), (1, 10), (1, 11), (1, 12), (1, 16)]) (QV (fun h' => h' = PS 41 [(37, 0), (37, 1), (36, 0), (36, 1), (36, 2), (1, 5), (1, 6), (1, 7), (1, 8), (1, 9), (1, 10), (1, 11), (1, 12), (1, 16)])) := by
  refine ocall_of (by decide) (Nat.le_of_ble_eq_true rfl) ?_
  show ORuns g (d + 1) 2 10 iX1_init 0 [(0, .ref (og_b g + 39)), (1, .ref (og_b g + 24))] [] (PS 39 [(39, 0), (39, 1), (39, 2), (37, 0), (37, 1), (36, 0), (36, 1), (36, 2), (1, 5), (1, 6), (1, 7), (1, 8), (1, 9), (1, 10), (1, 11), (1, 12), (1, 16)]) _
  refine r_aload_n (n := 1) 0 dX1_init_0 rfl rfl ?_
  refine r_objInit (n := 4) gw_161 ⟨gw_85, gw_86⟩ (Nat.le_of_ble_eq_true rfl) dX1_init_1 rfl ?_
  refine r_aload_n (n := 5) 0 dX1_init_4 rfl rfl ?_
  refine r_iconst (n := 6) (v := 5) dX1_init_5 (by decide) rfl ?_
  refine p_newarr (n := 8) (m := 39) (L' := [(39, 0), (39, 1), (39, 2), (37, 0), (37, 1), (36, 0), (36, 1), (36, 2), (1, 5), (1, 6), (1, 7), (1, 8), (1, 9), (1, 10), (1, 11), (1, 12), (1, 16)]) (t := 11) (i0 := 0) (fty := .int) (z := 5) (Z := 5) (mc := 1) (ms := 5) (by decide +kernel) (by decide +kernel) rfl (by decide) (fun _ => rfl) rfl na_int gw_105 (by decide) dX1_init_6 rfl ?_
  show ORuns g (d + 1) 1 5 iX1_init 8 [(0, .ref (og_b g + 39)), (1, .ref (og_b g + 24))] [.ref (og_b g + 40), .ref (og_b g + 39)] (PS 40 [(39, 0), (39, 1), (39, 2), (37, 0), (37, 1), (36, 0), (36, 1), (36, 2), (1, 5), (1, 6), (1, 7), (1, 8), (1, 9), (1, 10), (1, 11), (1, 12), (1, 16)]) _
  refine p_putR (n := 11) (v := 40) (m := 40) (a := 39) (L' := [(39, 0), (39, 2), (37, 0), (37, 1), (36, 0), (36, 1), (36, 2), (1, 5), (1, 6), (1, 7), (1, 8), (1, 9), (1, 10), (1, 11), (1, 12), (1, 16)]) 1 (by decide) (by decide +kernel) (by decide +kernel) cls_1 fi_1_1 (Or.inr ⟨rfl, rfl, rfl⟩) (fun _ => ⟨rfl, rfl⟩) (ps_obj (by decide +kernel)) gw_163 dX1_init_8 rfl ?_
  refine r_aload_n (n := 12) 0 dX1_init_11 rfl rfl ?_
  refine r_iconst (n := 13) (v := 5) dX1_init_12 (by decide) rfl ?_
  refine p_newarr (n := 15) (m := 40) (L' := [(39, 0), (39, 2), (37, 0), (37, 1), (36, 0), (36, 1), (36, 2), (1, 5), (1, 6), (1, 7), (1, 8), (1, 9), (1, 10), (1, 11), (1, 12), (1, 16)]) (t := 11) (i0 := 0) (fty := .int) (z := 5) (Z := 5) (mc := 0) (ms := 0) (by decide +kernel) (by decide +kernel) rfl (by decide) (fun _ => rfl) rfl na_int gw_105 (by decide) dX1_init_13 rfl ?_
  show ORuns g (d + 1) 0 0 iX1_init 15 [(0, .ref (og_b g + 39)), (1, .ref (og_b g + 24))] [.ref (og_b g + 41), .ref (og_b g + 39)] (PS 41 [(39, 0), (39, 2), (37, 0), (37, 1), (36, 0), (36, 1), (36, 2), (1, 5), (1, 6), (1, 7), (1, 8), (1, 9), (1, 10), (1, 11), (1, 12), (1, 16)]) _
  refine p_putR (n := 18) (v := 41) (m := 41) (a := 39) (L' := [(39, 0), (37, 0), (37, 1), (36, 0), (36, 1), (36, 2), (1, 5), (1, 6), (1, 7), (1, 8), (1, 9), (1, 10), (1, 11), (1, 12), (1, 16)]) 2 (by decide) (by decide +kernel) (by decide +kernel) cls_1 fi_1_2 (Or.inr ⟨rfl, rfl, rfl⟩) (fun _ => ⟨rfl, rfl⟩) (ps_obj (by decide +kernel)) gw_164 dX1_init_15 rfl ?_
  refine r_aload_n (n := 19) 0 dX1_init_18 rfl rfl ?_
  refine r_iconst (n := 20) (v := 0) dX1_init_19 (by decide) rfl ?_
  refine p_putI (n := 23) (m := 41) (a := 39) (L' := [(39, 0), (37, 0), (37, 1), (36, 0), (36, 1), (36, 2), (1, 5), (1, 6), (1, 7), (1, 8), (1, 9), (1, 10), (1, 11), (1, 12), (1, 16)]) 3 (by decide +kernel) (by decide +kernel) cls_1 fp_1_3 (ps_obj (by decide +kernel)) gw_165 dX1_init_20 rfl ?_
  refine r_aload_n (n := 24) 0 dX1_init_23 rfl rfl ?_
  refine r_iconst (n := 25) (v := 0) dX1_init_24 (by decide) rfl ?_
  refine p_putI (n := 28) (m := 41) (a := 39) (L' := [(39, 0), (37, 0), (37, 1), (36, 0), (36, 1), (36, 2), (1, 5), (1, 6), (1, 7), (1, 8), (1, 9), (1, 10), (1, 11), (1, 12), (1, 16)]) 4 (by decide +kernel) (by decide +kernel) cls_1 fp_1_4 (ps_obj (by decide +kernel)) gw_169 dX1_init_25 rfl ?_
  refine r_aload_n (n := 29) 0 dX1_init_28 rfl rfl ?_
  refine r_iconst (n := 30) (v := 0) dX1_init_29 (by decide) rfl ?_
  refine p_putZ (n := 33) (m := 41) (a := 39) (L' := [(39, 0), (37, 0), (37, 1), (36, 0), (36, 1), (36, 2), (1, 5), (1, 6), (1, 7), (1, 8), (1, 9), (1, 10), (1, 11), (1, 12), (1, 16)]) 5 (by decide) (by decide +kernel) (by decide +kernel) cls_1 fp_1_5 (ps_obj (by decide +kernel)) gw_171 dX1_init_30 rfl ?_
  refine r_aload_n (n := 34) 0 dX1_init_33 rfl rfl ?_
  refine r_iconst (n := 35) (v := 0) dX1_init_34 (by decide) rfl ?_
  refine p_putZ (n := 38) (m := 41) (a := 39) (L' := [(39, 0), (37, 0), (37, 1), (36, 0), (36, 1), (36, 2), (1, 5), (1, 6), (1, 7), (1, 8), (1, 9), (1, 10), (1, 11), (1, 12), (1, 16)]) 6 (by decide) (by decide +kernel) (by decide +kernel) cls_1 fp_1_6 (ps_obj (by decide +kernel)) gw_173 dX1_init_35 rfl ?_
  refine r_aload_n (n := 39) 0 dX1_init_38 rfl rfl ?_
  refine r_aload_n (n := 40) 1 dX1_init_39 rfl rfl ?_
  refine p_putR (n := 43) (v := 24) (m := 41) (a := 39) (L' := [(37, 0), (37, 1), (36, 0), (36, 1), (36, 2), (1, 5), (1, 6), (1, 7), (1, 8), (1, 9), (1, 10), (1, 11), (1, 12), (1, 16)]) 0 (by decide) (by decide +kernel) (by decide +kernel) cls_1 fi_1_0 (Or.inr ⟨rfl, rfl, rfl⟩) (fun _ => ⟨rfl, rfl⟩) (ps_obj (by decide +kernel)) gw_162 dX1_init_40 rfl ?_
  exact r_vret (st := []) dX1_init_43 rfl rfl
set_option maxRecDepth 20000 in
theorem k_42 {g : OG} {d : Nat} : OCall g (d + 1) 2 10 iX1_init [.ref (og_b g + 42), .ref (og_b g + 24)] (PS 42 [(42, 0), (42, 1), (42, 2), (37, 1), (36, 0), (36, 1), (36, 2), (1, 5), (1, 6), (1, 7), (1, 8), (1, 9), (1, 10), (1, 11), (1, 12), (1, 16)]) (QV (fun h' => h' = PS 44 [(37, 1), (36, 0), (36, 1), (36, 2), (1, 5), (1, 6), (1, 7), (1, 8), (1, 9), (1, 10), (1, 11), (1, 12), (1, 16)])) := by
  refine ocall_of (by decide) (Nat.le_of_ble_eq_true rfl) ?_
  show ORuns g (d + 1) 2 10 iX1_init 0 [(0, .ref (og_b g + 42)), (1, .ref (og_b g + 24))] [] (PS 42 [(42, 0), (42, 1), (42, 2), (37, 1), (36, 0), (36, 1), (36, 2), (1, 5), (1, 6), (1, 7), (1, 8), (1, 9), (1, 10), (1, 11), (1, 12), (1, 16)]) _
  refine r_aload_n (n := 1) 0 dX1_init_0 rfl rfl ?_
  refine r_objInit (n := 4) gw_161 ⟨gw_85, gw_86⟩ (Nat.le_of_ble_eq_true rfl) dX1_init_1 rfl ?_
  refine r_aload_n (n := 5) 0 dX1_init_4 rfl rfl ?_
  refine r_iconst (n := 6) (v := 5) dX1_init_5 (by decide) rfl ?_
  refine p_newarr (n := 8) (m := 42) (L' := [(42, 0), (42, 1), (42, 2), (37, 1), (36, 0), (36, 1), (36, 2), (1, 5), (1, 6), (1, 7), (1, 8), (1, 9), (1, 10), (1, 11), (1, 12), (1, 16)]) (t := 11) (i0 := 0) (fty := .int) (z := 5) (Z := 5) (mc := 1) (ms := 5) (by decide +kernel) (by decide +kernel) rfl (by decide) (fun _ => rfl) rfl na_int gw_105 (by decide) dX1_init_6 rfl ?_
  show ORuns g (d + 1) 1 5 iX1_init 8 [(0, .ref (og_b g + 42)), (1, .ref (og_b g + 24))] [.ref (og_b g + 43), .ref (og_b g + 42)] (PS 43 [(42, 0), (42, 1), (42, 2), (37, 1), (36, 0), (36, 1), (36, 2), (1, 5), (1, 6), (1, 7), (1, 8), (1, 9), (1, 10), (1, 11), (1, 12), (1, 16)]) _
  refine p_putR (n := 11) (v := 43) (m := 43) (a := 42) (L' := [(42, 0), (42, 2), (37, 1), (36, 0), (36, 1), (36, 2), (1, 5), (1, 6), (1, 7), (1, 8), (1, 9), (1, 10), (1, 11), (1, 12), (1, 16)]) 1 (by decide) (by decide +kernel) (by decide +kernel) cls_1 fi_1_1 (Or.inr ⟨rfl, rfl, rfl⟩) (fun _ => ⟨rfl, rfl⟩) (ps_obj (by decide +kernel)) gw_163 dX1_init_8 rfl ?_
  refine r_aload_n (n := 12) 0 dX1_init_11 rfl rfl ?_
  refine r_iconst (n := 13) (v := 5) dX1_init_12 (by decide) rfl ?_
  refine p_newarr (n := 15) (m := 43) (L' := [(42, 0), (42, 2), (37, 1), (36, 0), (36, 1), (36, 2), (1, 5), (1, 6), (1, 7), (1, 8), (1, 9), (1, 10), (1, 11), (1, 12), (1, 16)]) (t := 11) (i0 := 0) (fty := .int) (z := 5) (Z := 5) (mc := 0) (ms := 0) (by decide +kernel) (by decide +kernel) rfl (by decide) (fun _ => rfl) rfl na_int gw_105 (by decide) dX1_init_13 rfl ?_
  show ORuns g (d + 1) 0 0 iX1_init 15 [(0, .ref (og_b g + 42)), (1, .ref (og_b g + 24))] [.ref (og_b g + 44), .ref (og_b g + 42)] (PS 44 [(42, 0), (42, 2), (37, 1), (36, 0), (36, 1), (36, 2), (1, 5), (1, 6), (1, 7), (1, 8), (1, 9), (1, 10), (1, 11), (1, 12), (1, 16)]) _
  refine p_putR (n := 18) (v := 44) (m := 44) (a := 42) (L' := [(42, 0), (37, 1), (36, 0), (36, 1), (36, 2), (1, 5), (1, 6), (1, 7), (1, 8), (1, 9), (1, 10), (1, 11), (1, 12), (1, 16)]) 2 (by decide) (by decide +kernel) (by decide +kernel) cls_1 fi_1_2 (Or.inr ⟨rfl, rfl, rfl⟩) (fun _ => ⟨rfl, rfl⟩) (ps_obj (by decide +kernel)) gw_164 dX1_init_15 rfl ?_
  refine r_aload_n (n := 19) 0 dX1_init_18 rfl rfl ?_
  refine r_iconst (n := 20) (v := 0) dX1_init_19 (by decide) rfl ?_
  refine p_putI (n := 23) (m := 44) (a := 42) (L' := [(42, 0), (37, 1), (36, 0), (36, 1), (36, 2), (1, 5), (1, 6), (1, 7), (1, 8), (1, 9), (1, 10), (1, 11), (1, 12), (1, 16)]) 3 (by decide +kernel) (by decide +kernel) cls_1 fp_1_3 (ps_obj (by decide +kernel)) gw_165 dX1_init_20 rfl ?_
  refine r_aload_n (n := 24) 0 dX1_init_23 rfl rfl ?_
  refine r_iconst (n := 25) (v := 0) dX1_init_24 (by decide) rfl ?_
  refine p_putI (n := 28) (m := 44) (a := 42) (L' := [(42, 0), (37, 1), (36, 0), (36, 1), (36, 2), (1, 5), (1, 6), (1, 7), (1, 8), (1, 9), (1, 10), (1, 11), (1, 12), (1, 16)]) 4 (by decide +kernel) (by decide +kernel) cls_1 fp_1_4 (ps_obj (by decide +kernel)) gw_169 dX1_init_25 rfl ?_
  refine r_aload_n (n := 29) 0 dX1_init_28 rfl rfl ?_
  refine r_iconst (n := 30) (v := 0) dX1_init_29 (by decide) rfl ?_
  refine p_putZ (n := 33) (m := 44) (a := 42) (L' := [(42, 0), (37, 1), (36, 0), (36, 1), (36, 2), (1, 5), (1, 6), (1, 7), (1, 8), (1, 9), (1, 10), (1, 11), (1, 12), (1, 16)]) 5 (by decide) (by decide +kernel) (by decide +kernel) cls_1 fp_1_5 (ps_obj (by decide +kernel)) gw_171 dX1_init_30 rfl ?_
  refine r_aload_n (n := 34) 0 dX1_init_33 rfl rfl ?_
  refine r_iconst (n := 35) (v := 0) dX1_init_34 (by decide) rfl ?_
  refine p_putZ (n := 38) (m := 44) (a := 42) (L' := [(42, 0), (37, 1), (36, 0), (36, 1), (36, 2), (1, 5), (1, 6), (1, 7), (1, 8), (1, 9), (1, 10), (1, 11), (1, 12), (1, 16)]) 6 (by decide) (by decide +kernel) (by decide +kernel) cls_1 fp_1_6 (ps_obj (by decide +kernel)) gw_173 dX1_init_35 rfl ?_
  refine r_aload_n (n := 39) 0 dX1_init_38 rfl rfl ?_
  refine r_aload_n (n := 40) 1 dX1_init_39 rfl rfl ?_
  refine p_putR (n := 43) (v := 24) (m := 44) (a := 42) (L' := [(37, 1), (36, 0), (36, 1), (36, 2), (1, 5), (1, 6), (1, 7), (1, 8), (1, 9), (1, 10), (1, 11), (1, 12), (1, 16)]) 0 (by decide) (by decide +kernel) (by decide +kernel) cls_1 fi_1_0 (Or.inr ⟨rfl, rfl, rfl⟩) (fun _ => ⟨rfl, rfl⟩) (ps_obj (by decide +kernel)) gw_162 dX1_init_40 rfl ?_
  exact r_vret (st := []) dX1_init_43 rfl rfl
set_option maxRecDepth 20000 in
theorem k_37 {g : OG} {d : Nat} : OCall g (d + 2) 7 74 iX0_init [.ref (og_b g + 37), .ref (og_b g + 24)] (PS 37 [(37, 0), (37, 1), (37, 2), (36, 0), (36, 1), (36, 2), (1, 5), (1, 6), (1, 7), (1, 8), (1, 9), (1, 10), (1, 11), (1, 12), (1, 16)]) (QV (fun h' => h' = PS 44 [(36, 0), (36, 1), (36, 2), (1, 5), (1, 6), (1, 7), (1, 8), (1, 9), (1, 10), (1, 11), (1, 12), (1, 16)])) := by
  refine ocall_of (by decide) (Nat.le_of_ble_eq_true rfl) ?_
  show ORuns g (d + 2) 7 74 iX0_init 0 [(0, .ref (og_b g + 37)), (1, .ref (og_b g + 24))] [] (PS 37 [(37, 0), (37, 1), (37, 2), (36, 0), (36, 1), (36, 2), (1, 5), (1, 6), (1, 7), (1, 8), (1, 9), (1, 10), (1, 11), (1, 12), (1, 16)]) _
  refine r_aload_n (n := 1) 0 dX0_init_0 rfl rfl ?_
  refine r_objInit (n := 4) gw_155 ⟨gw_85, gw_86⟩ (Nat.le_of_ble_eq_true rfl) dX0_init_1 rfl ?_
  refine r_aload_n (n := 5) 0 dX0_init_4 rfl rfl ?_
  refine r_bipush (n := 7) (v := 40) dX0_init_5 (by decide) rfl ?_
  refine p_newarr (n := 9) (m := 37) (L' := [(37, 0), (37, 1), (37, 2), (36, 0), (36, 1), (36, 2), (1, 5), (1, 6), (1, 7), (1, 8), (1, 9), (1, 10), (1, 11), (1, 12), (1, 16)]) (t := 11) (i0 := 0) (fty := .int) (z := 40) (Z := 40) (mc := 6) (ms := 34) (by decide +kernel) (by decide +kernel) rfl (by decide) (fun _ => rfl) rfl na_int gw_105 (by decide) dX0_init_7 rfl ?_
  show ORuns g (d + 2) 6 34 iX0_init 9 [(0, .ref (og_b g + 37)), (1, .ref (og_b g + 24))] [.ref (og_b g + 38), .ref (og_b g + 37)] (PS 38 [(37, 0), (37, 1), (37, 2), (36, 0), (36, 1), (36, 2), (1, 5), (1, 6), (1, 7), (1, 8), (1, 9), (1, 10), (1, 11), (1, 12), (1, 16)]) _
  refine p_putR (n := 12) (v := 38) (m := 38) (a := 37) (L' := [(37, 0), (37, 1), (36, 0), (36, 1), (36, 2), (1, 5), (1, 6), (1, 7), (1, 8), (1, 9), (1, 10), (1, 11), (1, 12), (1, 16)]) 2 (by decide) (by decide +kernel) (by decide +kernel) cls_0 fi_0_2 (Or.inr ⟨rfl, rfl, rfl⟩) (fun _ => ⟨rfl, rfl⟩) (ps_obj (by decide +kernel)) gw_193 dX0_init_9 rfl ?_
  refine r_aload_n (n := 13) 0 dX0_init_12 rfl rfl ?_
  refine r_iconst (n := 14) (v := 0) dX0_init_13 (by decide) rfl ?_
  refine p_putI (n := 17) (m := 38) (a := 37) (L' := [(37, 0), (37, 1), (36, 0), (36, 1), (36, 2), (1, 5), (1, 6), (1, 7), (1, 8), (1, 9), (1, 10), (1, 11), (1, 12), (1, 16)]) 3 (by decide +kernel) (by decide +kernel) cls_0 fp_0_3 (ps_obj (by decide +kernel)) gw_194 dX0_init_14 rfl ?_
  refine r_aload_n (n := 18) 0 dX0_init_17 rfl rfl ?_
  refine r_iconst (n := 19) (v := 0) dX0_init_18 (by decide) rfl ?_
  refine p_putZ (n := 22) (m := 38) (a := 37) (L' := [(37, 0), (37, 1), (36, 0), (36, 1), (36, 2), (1, 5), (1, 6), (1, 7), (1, 8), (1, 9), (1, 10), (1, 11), (1, 12), (1, 16)]) 4 (by decide) (by decide +kernel) (by decide +kernel) cls_0 fp_0_4 (ps_obj (by decide +kernel)) gw_196 dX0_init_19 rfl ?_
  refine r_aload_n (n := 23) 0 dX0_init_22 rfl rfl ?_
  refine p_new (n := 26) (m := 38) (L' := [(39, 0), (39, 1), (39, 2), (37, 0), (37, 1), (36, 0), (36, 1), (36, 2), (1, 5), (1, 6), (1, 7), (1, 8), (1, 9), (1, 10), (1, 11), (1, 12), (1, 16)]) (mc := 5) (ms := 27) (by decide +kernel) (by decide +kernel) cls_1 ⟨gw_156, gw_157, gw_69⟩ dv_1 dX0_init_23 rfl ?_
  show ORuns g (d + 2) 5 27 iX0_init 26 [(0, .ref (og_b g + 37)), (1, .ref (og_b g + 24))] [.ref (og_b g + 39), .ref (og_b g + 37)] (PS 39 [(39, 0), (39, 1), (39, 2), (37, 0), (37, 1), (36, 0), (36, 1), (36, 2), (1, 5), (1, 6), (1, 7), (1, 8), (1, 9), (1, 10), (1, 11), (1, 12), (1, 16)]) _
  refine r_dup (n := 27) dX0_init_26 rfl rfl ?_
  refine r_aload_n (n := 28) 1 dX0_init_27 rfl rfl ?_
  refine r_callI (n := 31) (a := 39) (mc' := 2) (ms' := 10) (mc := 3) (ms := 17) (As := [.ref (og_b g + 24)]) (rest := [.ref (og_b g + 39), .ref (og_b g + 37)]) cm_X1_init gw_158 rfl (Nat.le_of_ble_eq_true rfl) dX0_init_28 rfl (ocall_mono (fun v h' e => ?_) (k_39))
  obtain ⟨rfl, rfl⟩ := e
  show ORuns g (d + 2) 3 17 iX0_init 31 [(0, .ref (og_b g + 37)), (1, .ref (og_b g + 24))] [.ref (og_b g + 39), .ref (og_b g + 37)] (PS 41 [(37, 0), (37, 1), (36, 0), (36, 1), (36, 2), (1, 5), (1, 6), (1, 7), (1, 8), (1, 9), (1, 10), (1, 11), (1, 12), (1, 16)]) _
  refine p_putR (n := 34) (v := 39) (m := 41) (a := 37) (L' := [(37, 1), (36, 0), (36, 1), (36, 2), (1, 5), (1, 6), (1, 7), (1, 8), (1, 9), (1, 10), (1, 11), (1, 12), (1, 16)]) 0 (by decide) (by decide +kernel) (by decide +kernel) cls_0 fi_0_0 (Or.inr ⟨rfl, rfl, rfl⟩) (fun _ => ⟨rfl, rfl⟩) (ps_obj (by decide +kernel)) gw_189 dX0_init_31 rfl ?_
  refine r_aload_n (n := 35) 0 dX0_init_34 rfl rfl ?_
  refine p_new (n := 38) (m := 41) (L' := [(42, 0), (42, 1), (42, 2), (37, 1), (36, 0), (36, 1), (36, 2), (1, 5), (1, 6), (1, 7), (1, 8), (1, 9), (1, 10), (1, 11), (1, 12), (1, 16)]) (mc := 2) (ms := 10) (by decide +kernel) (by decide +kernel) cls_1 ⟨gw_156, gw_157, gw_69⟩ dv_1 dX0_init_35 rfl ?_
  show ORuns g (d + 2) 2 10 iX0_init 38 [(0, .ref (og_b g + 37)), (1, .ref (og_b g + 24))] [.ref (og_b g + 42), .ref (og_b g + 37)] (PS 42 [(42, 0), (42, 1), (42, 2), (37, 1), (36, 0), (36, 1), (36, 2), (1, 5), (1, 6), (1, 7), (1, 8), (1, 9), (1, 10), (1, 11), (1, 12), (1, 16)]) _
  refine r_dup (n := 39) dX0_init_38 rfl rfl ?_
  refine r_aload_n (n := 40) 1 dX0_init_39 rfl rfl ?_
  refine r_callI (n := 43) (a := 42) (mc' := 2) (ms' := 10) (mc := 0) (ms := 0) (As := [.ref (og_b g + 24)]) (rest := [.ref (og_b g + 42), .ref (og_b g + 37)]) cm_X1_init gw_158 rfl (Nat.le_of_ble_eq_true rfl) dX0_init_40 rfl (ocall_mono (fun v h' e => ?_) (k_42))
  obtain ⟨rfl, rfl⟩ := e
  show ORuns g (d + 2) 0 0 iX0_init 43 [(0, .ref (og_b g + 37)), (1, .ref (og_b g + 24))] [.ref (og_b g + 42), .ref (og_b g + 37)] (PS 44 [(37, 1), (36, 0), (36, 1), (36, 2), (1, 5), (1, 6), (1, 7), (1, 8), (1, 9), (1, 10), (1, 11), (1, 12), (1, 16)]) _
  refine p_putR (n := 46) (v := 42) (m := 44) (a := 37) (L' := [(36, 0), (36, 1), (36, 2), (1, 5), (1, 6), (1, 7), (1, 8), (1, 9), (1, 10), (1, 11), (1, 12), (1, 16)]) 1 (by decide) (by decide +kernel) (by decide +kernel) cls_0 fi_0_1 (Or.inr ⟨rfl, rfl, rfl⟩) (fun _ => ⟨rfl, rfl⟩) (ps_obj (by decide +kernel)) gw_191 dX0_init_43 rfl ?_
  exact r_vret (st := []) dX0_init_46 rfl rfl
set_option maxRecDepth 20000 in
theorem k_47 {g : OG} {d : Nat} : OCall g (d + 1) 2 10 iX1_init [.ref (og_b g + 47), .ref (og_b g + 24)] (PS 47 [(47, 0), (47, 1), (47, 2), (45, 0), (45, 1), (36, 1), (36, 2), (1, 5), (1, 6), (1, 7), (1, 8), (1, 9), (1, 10), (1, 11), (1, 12), (1, 16)]) (QV (fun h' => h' = PS 49 [(45, 0), (45, 1), (36, 1), (36, 2), (1, 5), (1, 6), (1, 7), (1, 8), (1, 9), (1, 10), (1, 11), (1, 12), (1, 16)])) := by
  refine ocall_of (by decide) (Nat.le_of_ble_eq_true rfl) ?_
  show ORuns g (d + 1) 2 10 iX1_init 0 [(0, .ref (og_b g + 47)), (1, .ref (og_b g + 24))] [] (PS 47 [(47, 0), (47, 1), (47, 2), (45, 0), (45, 1), (36, 1), (36, 2), (1, 5), (1, 6), (1, 7), (1, 8), (1, 9), (1, 10), (1, 11), (1, 12), (1, 16)]) _
  refine r_aload_n (n := 1) 0 dX1_init_0 rfl rfl ?_
  refine r_objInit (n := 4) gw_161 ⟨gw_85, gw_86⟩ (Nat.le_of_ble_eq_true rfl) dX1_init_1 rfl ?_
  refine r_aload_n (n := 5) 0 dX1_init_4 rfl rfl ?_
  refine r_iconst (n := 6) (v := 5) dX1_init_5 (by decide) rfl ?_
  refine p_newarr (n := 8) (m := 47) (L' := [(47, 0), (47, 1), (47, 2), (45, 0), (45, 1), (36, 1), (36, 2), (1, 5), (1, 6), (1, 7), (1, 8), (1, 9), (1, 10), (1, 11), (1, 12), (1, 16)]) (t := 11) (i0 := 0) (fty := .int) (z := 5) (Z := 5) (mc := 1) (ms := 5) (by decide +kernel) (by decide +kernel) rfl (by decide) (fun _ => rfl) rfl na_int gw_105 (by decide) dX1_init_6 rfl ?_
  show ORuns g (d + 1) 1 5 iX1_init 8 [(0, .ref (og_b g + 47)), (1, .ref (og_b g + 24))] [.ref (og_b g + 48), .ref (og_b g + 47)] (PS 48 [(47, 0), (47, 1), (47, 2), (45, 0), (45, 1), (36, 1), (36, 2), (1, 5), (1, 6), (1, 7), (1, 8), (1, 9), (1, 10), (1, 11), (1, 12), (1, 16)]) _
  refine p_putR (n := 11) (v := 48) (m := 48) (a := 47) (L' := [(47, 0), (47, 2), (45, 0), (45, 1), (36, 1), (36, 2), (1, 5), (1, 6), (1, 7), (1, 8), (1, 9), (1, 10), (1, 11), (1, 12), (1, 16)]) 1 (by decide) (by decide +kernel) (by decide +kernel) cls_1 fi_1_1 (Or.inr ⟨rfl, rfl, rfl⟩) (fun _ => ⟨rfl, rfl⟩) (ps_obj (by decide +kernel)) gw_163 dX1_init_8 rfl ?_
  refine r_aload_n (n := 12) 0 dX1_init_11 rfl rfl ?_
  refine r_iconst (n := 13) (v := 5) dX1_init_12 (by decide) rfl ?_
  refine p_newarr (n := 15) (m := 48) (L' := [(47, 0), (47, 2), (45, 0), (45, 1), (36, 1), (36, 2), (1, 5), (1, 6), (1, 7), (1, 8), (1, 9), (1, 10), (1, 11), (1, 12), (1, 16)]) (t := 11) (i0 := 0) (fty := .int) (z := 5) (Z := 5) (mc := 0) (ms := 0) (by decide +kernel) (by decide +kernel) rfl (by decide) (fun _ => rfl) rfl na_int gw_105 (by decide) dX1_init_13 rfl ?_
  show ORuns g (d + 1) 0 0 iX1_init 15 [(0, .ref (og_b g + 47)), (1, .ref (og_b g + 24))] [.ref (og_b g + 49), .ref (og_b g + 47)] (PS 49 [(47, 0), (47, 2), (45, 0), (45, 1), (36, 1), (36, 2), (1, 5), (1, 6), (1, 7), (1, 8), (1, 9), (1, 10), (1, 11), (1, 12), (1, 16)]) _
  refine p_putR (n := 18) (v := 49) (m := 49) (a := 47) (L' := [(47, 0), (45, 0), (45, 1), (36, 1), (36, 2), (1, 5), (1, 6), (1, 7), (1, 8), (1, 9), (1, 10), (1, 11), (1, 12), (1, 16)]) 2 (by decide) (by decide +kernel) (by decide +kernel) cls_1 fi_1_2 (Or.inr ⟨rfl, rfl, rfl⟩) (fun _ => ⟨rfl, rfl⟩) (ps_obj (by decide +kernel)) gw_164 dX1_init_15 rfl ?_
  refine r_aload_n (n := 19) 0 dX1_init_18 rfl rfl ?_
  refine r_iconst (n := 20) (v := 0) dX1_init_19 (by decide) rfl ?_
  refine p_putI (n := 23) (m := 49) (a := 47) (L' := [(47, 0), (45, 0), (45, 1), (36, 1), (36, 2), (1, 5), (1, 6), (1, 7), (1, 8), (1, 9), (1, 10), (1, 11), (1, 12), (1, 16)]) 3 (by decide +kernel) (by decide +kernel) cls_1 fp_1_3 (ps_obj (by decide +kernel)) gw_165 dX1_init_20 rfl ?_
  refine r_aload_n (n := 24) 0 dX1_init_23 rfl rfl ?_
  refine r_iconst (n := 25) (v := 0) dX1_init_24 (by decide) rfl ?_
  refine p_putI (n := 28) (m := 49) (a := 47) (L' := [(47, 0), (45, 0), (45, 1), (36, 1), (36, 2), (1, 5), (1, 6), (1, 7), (1, 8), (1, 9), (1, 10), (1, 11), (1, 12), (1, 16)]) 4 (by decide +kernel) (by decide +kernel) cls_1 fp_1_4 (ps_obj (by decide +kernel)) gw_169 dX1_init_25 rfl ?_
  refine r_aload_n (n := 29) 0 dX1_init_28 rfl rfl ?_
  refine r_iconst (n := 30) (v := 0) dX1_init_29 (by decide) rfl ?_
  refine p_putZ (n := 33) (m := 49) (a := 47) (L' := [(47, 0), (45, 0), (45, 1), (36, 1), (36, 2), (1, 5), (1, 6), (1, 7), (1, 8), (1, 9), (1, 10), (1, 11), (1, 12), (1, 16)]) 5 (by decide) (by decide +kernel) (by decide +kernel) cls_1 fp_1_5 (ps_obj (by decide +kernel)) gw_171 dX1_init_30 rfl ?_
  refine r_aload_n (n := 34) 0 dX1_init_33 rfl rfl ?_
  refine r_iconst (n := 35) (v := 0) dX1_init_34 (by decide) rfl ?_
  refine p_putZ (n := 38) (m := 49) (a := 47) (L' := [(47, 0), (45, 0), (45, 1), (36, 1), (36, 2), (1, 5), (1, 6), (1, 7), (1, 8), (1, 9), (1, 10), (1, 11), (1, 12), (1, 16)]) 6 (by decide) (by decide +kernel) (by decide +kernel) cls_1 fp_1_6 (ps_obj (by decide +kernel)) gw_173 dX1_init_35 rfl ?_
  refine r_aload_n (n := 39) 0 dX1_init_38 rfl rfl ?_
  refine r_aload_n (n := 40) 1 dX1_init_39 rfl rfl ?_
  refine p_putR (n := 43) (v := 24) (m := 49) (a := 47) (L' := [(45, 0), (45, 1), (36, 1), (36, 2), (1, 5), (1, 6), (1, 7), (1, 8), (1, 9), (1, 10), (1, 11), (1, 12), (1, 16)]) 0 (by decide) (by decide +kernel) (by decide +kernel) cls_1 fi_1_0 (Or.inr ⟨rfl, rfl, rfl⟩) (fun _ => ⟨rfl, rfl⟩) (ps_obj (by decide +kernel)) gw_162 dX1_init_40 rfl ?_
  exact r_vret (st := []) dX1_init_43 rfl rfl
set_option maxRecDepth 20000 in
theorem k_50 {g : OG} {d : Nat} : OCall g (d + 1) 2 10 iX1_init [.ref (og_b g + 50), .ref (og_b g + 24)] (PS 50 [(50, 0), (50, 1), (50, 2), (45, 1), (36, 1), (36, 2), (1, 5), (1, 6), (1, 7), (1, 8), (1, 9), (1, 10), (1, 11), (1, 12), (1, 16)]) (QV (fun h' => h' = PS 52 [(45, 1), (36, 1), (36, 2), (1, 5), (1, 6), (1, 7), (1, 8), (1, 9), (1, 10), (1, 11), (1, 12), (1, 16)])) := by
  refine ocall_of (by decide) (Nat.le_of_ble_eq_true rfl) ?_
  show ORuns g (d + 1) 2 10 iX1_init 0 [(0, .ref (og_b g + 50)), (1, .ref (og_b g + 24))] [] (PS 50 [(50, 0), (50, 1), (50, 2), (45, 1), (36, 1), (36, 2), (1, 5), (1, 6), (1, 7), (1, 8), (1, 9), (1, 10), (1, 11), (1, 12), (1, 16)]) _
  refine r_aload_n (n := 1) 0 dX1_init_0 rfl rfl ?_
  refine r_objInit (n := 4) gw_161 ⟨gw_85, gw_86⟩ (Nat.le_of_ble_eq_true rfl) dX1_init_1 rfl ?_
  refine r_aload_n (n := 5) 0 dX1_init_4 rfl rfl ?_
  refine r_iconst (n := 6) (v := 5) dX1_init_5 (by decide) rfl ?_
  refine p_newarr (n := 8) (m := 50) (L' := [(50, 0), (50, 1), (50, 2), (45, 1), (36, 1), (36, 2), (1, 5), (1, 6), (1, 7), (1, 8), (1, 9), (1, 10), (1, 11), (1, 12), (1, 16)]) (t := 11) (i0 := 0) (fty := .int) (z := 5) (Z := 5) (mc := 1) (ms := 5) (by decide +kernel) (by decide +kernel) rfl (by decide) (fun _ => rfl) rfl na_int gw_105 (by decide) dX1_init_6 rfl ?_
  show ORuns g (d + 1) 1 5 iX1_init 8 [(0, .ref (og_b g + 50)), (1, .ref (og_b g + 24))] [.ref (og_b g + 51), .ref (og_b g + 50)] (PS 51 [(50, 0), (50, 1), (50, 2), (45, 1), (36, 1), (36, 2), (1, 5), (1, 6), (1, 7), (1, 8), (1, 9), (1, 10), (1, 11), (1, 12), (1, 16)]) _
  refine p_putR (n := 11) (v := 51) (m := 51) (a := 50) (L' := [(50, 0), (50, 2), (45, 1), (36, 1), (36, 2), (1, 5), (1, 6), (1, 7), (1, 8), (1, 9), (1, 10), (1, 11), (1, 12), (1, 16)]) 1 (by decide) (by decide +kernel) (by decide +kernel) cls_1 fi_1_1 (Or.inr ⟨rfl, rfl, rfl⟩) (fun _ => ⟨rfl, rfl⟩) (ps_obj (by decide +kernel)) gw_163 dX1_init_8 rfl ?_
  refine r_aload_n (n := 12) 0 dX1_init_11 rfl rfl ?_
  refine r_iconst (n := 13) (v := 5) dX1_init_12 (by decide) rfl ?_
  refine p_newarr (n := 15) (m := 51) (L' := [(50, 0), (50, 2), (45, 1), (36, 1), (36, 2), (1, 5), (1, 6), (1, 7), (1, 8), (1, 9), (1, 10), (1, 11), (1, 12), (1, 16)]) (t := 11) (i0 := 0) (fty := .int) (z := 5) (Z := 5) (mc := 0) (ms := 0) (by decide +kernel) (by decide +kernel) rfl (by decide) (fun _ => rfl) rfl na_int gw_105 (by decide) dX1_init_13 rfl ?_
  show ORuns g (d + 1) 0 0 iX1_init 15 [(0, .ref (og_b g + 50)), (1, .ref (og_b g + 24))] [.ref (og_b g + 52), .ref (og_b g + 50)] (PS 52 [(50, 0), (50, 2), (45, 1), (36, 1), (36, 2), (1, 5), (1, 6), (1, 7), (1, 8), (1, 9), (1, 10), (1, 11), (1, 12), (1, 16)]) _
  refine p_putR (n := 18) (v := 52) (m := 52) (a := 50) (L' := [(50, 0), (45, 1), (36, 1), (36, 2), (1, 5), (1, 6), (1, 7), (1, 8), (1, 9), (1, 10), (1, 11), (1, 12), (1, 16)]) 2 (by decide) (by decide +kernel) (by decide +kernel) cls_1 fi_1_2 (Or.inr ⟨rfl, rfl, rfl⟩) (fun _ => ⟨rfl, rfl⟩) (ps_obj (by decide +kernel)) gw_164 dX1_init_15 rfl ?_
  refine r_aload_n (n := 19) 0 dX1_init_18 rfl rfl ?_
  refine r_iconst (n := 20) (v := 0) dX1_init_19 (by decide) rfl ?_
  refine p_putI (n := 23) (m := 52) (a := 50) (L' := [(50, 0), (45, 1), (36, 1), (36, 2), (1, 5), (1, 6), (1, 7), (1, 8), (1, 9), (1, 10), (1, 11), (1, 12), (1, 16)]) 3 (by decide +kernel) (by decide +kernel) cls_1 fp_1_3 (ps_obj (by decide +kernel)) gw_165 dX1_init_20 rfl ?_
  refine r_aload_n (n := 24) 0 dX1_init_23 rfl rfl ?_
  refine r_iconst (n := 25) (v := 0) dX1_init_24 (by decide) rfl ?_
  refine p_putI (n := 28) (m := 52) (a := 50) (L' := [(50, 0), (45, 1), (36, 1), (36, 2), (1, 5), (1, 6), (1, 7), (1, 8), (1, 9), (1, 10), (1, 11), (1, 12), (1, 16)]) 4 (by decide +kernel) (by decide +kernel) cls_1 fp_1_4 (ps_obj (by decide +kernel)) gw_169 dX1_init_25 rfl ?_
  refine r_aload_n (n := 29) 0 dX1_init_28 rfl rfl ?_
  refine r_iconst (n := 30) (v := 0) dX1_init_29 (by decide) rfl ?_
  refine p_putZ (n := 33) (m := 52) (a := 50) (L' := [(50, 0), (45, 1), (36, 1), (36, 2), (1, 5), (1, 6), (1, 7), (1, 8), (1, 9), (1, 10), (1, 11), (1, 12), (1, 16)]) 5 (by decide) (by decide +kernel) (by decide +kernel) cls_1 fp_1_5 (ps_obj (by decide +kernel)) gw_171 dX1_init_30 rfl ?_
  refine r_aload_n (n := 34) 0 dX1_init_33 rfl rfl ?_
  refine r_iconst (n := 35) (v := 0) dX1_init_34 (by decide) rfl ?_
  refine p_putZ (n := 38) (m := 52) (a := 50) (L' := [(50, 0), (45, 1), (36, 1), (36, 2), (1, 5), (1, 6), (1, 7), (1, 8), (1, 9), (1, 10), (1, 11), (1, 12), (1, 16)]) 6 (by decide) (by decide +kernel) (by decide +kernel) cls_1 fp_1_6 (ps_obj (by decide +kernel)) gw_173 dX1_init_35 rfl ?_
  refine r_aload_n (n := 39) 0 dX1_init_38 rfl rfl ?_
  refine r_aload_n (n := 40) 1 dX1_init_39 rfl rfl ?_
  refine p_putR (n := 43) (v := 24) (m := 52) (a := 50) (L' := [(45, 1), (36, 1), (36, 2), (1, 5), (1, 6), (1, 7), (1, 8), (1, 9), (1, 10), (1, 11), (1, 12), (1, 16)]) 0 (by decide) (by decide +kernel) (by decide +kernel) cls_1 fi_1_0 (Or.inr ⟨rfl, rfl, rfl⟩) (fun _ => ⟨rfl, rfl⟩) (ps_obj (by decide +kernel)) gw_162 dX1_init_40 rfl ?_
  exact r_vret (st := []) dX1_init_43 rfl rfl
set_option maxRecDepth 20000 in
theorem k_45 {g : OG} {d : Nat} : OCall g (d + 2) 7 74 iX0_init [.ref (og_b g + 45), .ref (og_b g + 24)] (PS 45 [(45, 0), (45, 1), (45, 2), (36, 1), (36, 2), (1, 5), (1, 6), (1, 7), (1, 8), (1, 9), (1, 10), (1, 11), (1, 12), (1, 16)]) (QV (fun h' => h' = PS 52 [(36, 1), (36, 2), (1, 5), (1, 6), (1, 7), (1, 8), (1, 9), (1, 10), (1, 11), (1, 12), (1, 16)])) := by
  refine ocall_of (by decide) (Nat.le_of_ble_eq_true rfl) ?_
  show ORuns g (d + 2) 7 74 iX0_init 0 [(0, .ref (og_b g + 45)), (1, .ref (og_b g + 24))] [] (PS 45 [(45, 0), (45, 1), (45, 2), (36, 1), (36, 2), (1, 5), (1, 6), (1, 7), (1, 8), (1, 9), (1, 10), (1, 11), (1, 12), (1, 16)]) _
  refine r_aload_n (n := 1) 0 dX0_init_0 rfl rfl ?_
  refine r_objInit (n := 4) gw_155 ⟨gw_85, gw_86⟩ (Nat.le_of_ble_eq_true rfl) dX0_init_1 rfl ?_
  refine r_aload_n (n := 5) 0 dX0_init_4 rfl rfl ?_
  refine r_bipush (n := 7) (v := 40) dX0_init_5 (by decide) rfl ?_
  refine p_newarr (n := 9) (m := 45) (L' := [(45, 0), (45, 1), (45, 2), (36, 1), (36, 2), (1, 5), (1, 6), (1, 7), (1, 8), (1, 9), (1, 10), (1, 11), (1, 12), (1, 16)]) (t := 11) (i0 := 0) (fty := .int) (z := 40) (Z := 40) (mc := 6) (ms := 34) (by decide +kernel) (by decide +kernel) rfl (by decide) (fun _ => rfl) rfl na_int gw_105 (by decide) dX0_init_7 rfl ?_
  show ORuns g (d + 2) 6 34 iX0_init 9 [(0, .ref (og_b g + 45)), (1, .ref (og_b g + 24))] [.ref (og_b g + 46), .ref (og_b g + 45)] (PS 46 [(45, 0), (45, 1), (45, 2), (36, 1), (36, 2), (1, 5), (1, 6), (1, 7), (1, 8), (1, 9), (1, 10), (1, 11), (1, 12), (1, 16)]) _
  refine p_putR (n := 12) (v := 46) (m := 46) (a := 45) (L' := [(45, 0), (45, 1), (36, 1), (36, 2), (1, 5), (1, 6), (1, 7), (1, 8), (1, 9), (1, 10), (1, 11), (1, 12), (1, 16)]) 2 (by decide) (by decide +kernel) (by decide +kernel) cls_0 fi_0_2 (Or.inr ⟨rfl, rfl, rfl⟩) (fun _ => ⟨rfl, rfl⟩) (ps_obj (by decide +kernel)) gw_193 dX0_init_9 rfl ?_
  refine r_aload_n (n := 13) 0 dX0_init_12 rfl rfl ?_
  refine r_iconst (n := 14) (v := 0) dX0_init_13 (by decide) rfl ?_
  refine p_putI (n := 17) (m := 46) (a := 45) (L' := [(45, 0), (45, 1), (36, 1), (36, 2), (1, 5), (1, 6), (1, 7), (1, 8), (1, 9), (1, 10), (1, 11), (1, 12), (1, 16)]) 3 (by decide +kernel) (by decide +kernel) cls_0 fp_0_3 (ps_obj (by decide +kernel)) gw_194 dX0_init_14 rfl ?_
  refine r_aload_n (n := 18) 0 dX0_init_17 rfl rfl ?_
  refine r_iconst (n := 19) (v := 0) dX0_init_18 (by decide) rfl ?_
  refine p_putZ (n := 22) (m := 46) (a := 45) (L' := [(45, 0), (45, 1), (36, 1), (36, 2), (1, 5), (1, 6), (1, 7), (1, 8), (1, 9), (1, 10), (1, 11), (1, 12), (1, 16)]) 4 (by decide) (by decide +kernel) (by decide +kernel) cls_0 fp_0_4 (ps_obj (by decide +kernel)) gw_196 dX0_init_19 rfl ?_
  refine r_aload_n (n := 23) 0 dX0_init_22 rfl rfl ?_
  refine p_new (n := 26) (m := 46) (L' := [(47, 0), (47, 1), (47, 2), (45, 0), (45, 1), (36, 1), (36, 2), (1, 5), (1, 6), (1, 7), (1, 8), (1, 9), (1, 10), (1, 11), (1, 12), (1, 16)]) (mc := 5) (ms := 27) (by decide +kernel) (by decide +kernel) cls_1 ⟨gw_156, gw_157, gw_69⟩ dv_1 dX0_init_23 rfl ?_
  show ORuns g (d + 2) 5 27 iX0_init 26 [(0, .ref (og_b g + 45)), (1, .ref (og_b g + 24))] [.ref (og_b g + 47), .ref (og_b g + 45)] (PS 47 [(47, 0), (47, 1), (47, 2), (45, 0), (45, 1), (36, 1), (36, 2), (1, 5), (1, 6), (1, 7), (1, 8), (1, 9), (1, 10), (1, 11), (1, 12), (1, 16)]) _
  refine r_dup (n := 27) dX0_init_26 rfl rfl ?_
  refine r_aload_n (n := 28) 1 dX0_init_27 rfl rfl ?_
  refine r_callI (n := 31) (a := 47) (mc' := 2) (ms' := 10) (mc := 3) (ms := 17) (As := [.ref (og_b g + 24)]) (rest := [.ref (og_b g + 47), .ref (og_b g + 45)]) cm_X1_init gw_158 rfl (Nat.le_of_ble_eq_true rfl) dX0_init_28 rfl (ocall_mono (fun v h' e => ?_) (k_47))
  obtain ⟨rfl, rfl⟩ := e
  show ORuns g (d + 2) 3 17 iX0_init 31 [(0, .ref (og_b g + 45)), (1, .ref (og_b g + 24))] [.ref (og_b g + 47), .ref (og_b g + 45)] (PS 49 [(45, 0), (45, 1), (36, 1), (36, 2), (1, 5), (1, 6), (1, 7), (1, 8), (1, 9), (1, 10), (1, 11), (1, 12), (1, 16)]) _
  refine p_putR (n := 34) (v := 47) (m := 49) (a := 45) (L' := [(45, 1), (36, 1), (36, 2), (1, 5), (1, 6), (1, 7), (1, 8), (1, 9), (1, 10), (1, 11), (1, 12), (1, 16)]) 0 (by decide) (by decide +kernel) (by decide +kernel) cls_0 fi_0_0 (Or.inr ⟨rfl, rfl, rfl⟩) (fun _ => ⟨rfl, rfl⟩) (ps_obj (by decide +kernel)) gw_189 dX0_init_31 rfl ?_
  refine r_aload_n (n := 35) 0 dX0_init_34 rfl rfl ?_
  refine p_new (n := 38) (m := 49) (L' := [(50, 0), (50, 1), (50, 2), (45, 1), (36, 1), (36, 2), (1, 5), (1, 6), (1, 7), (1, 8), (1, 9), (1, 10), (1, 11), (1, 12), (1, 16)]) (mc := 2) (ms := 10) (by decide +kernel) (by decide +kernel) cls_1 ⟨gw_156, gw_157, gw_69⟩ dv_1 dX0_init_35 rfl ?_
  show ORuns g (d + 2) 2 10 iX0_init 38 [(0, .ref (og_b g + 45)), (1, .ref (og_b g + 24))] [.ref (og_b g + 50), .ref (og_b g + 45)] (PS 50 [(50, 0), (50, 1), (50, 2), (45, 1), (36, 1), (36, 2), (1, 5), (1, 6), (1, 7), (1, 8), (1, 9), (1, 10), (1, 11), (1, 12), (1, 16)]) _
  refine r_dup (n := 39) dX0_init_38 rfl rfl ?_
  refine r_aload_n (n := 40) 1 dX0_init_39 rfl rfl ?_
  refine r_callI (n := 43) (a := 50) (mc' := 2) (ms' := 10) (mc := 0) (ms := 0) (As := [.ref (og_b g + 24)]) (rest := [.ref (og_b g + 50), .ref (og_b g + 45)]) cm_X1_init gw_158 rfl (Nat.le_of_ble_eq_true rfl) dX0_init_40 rfl (ocall_mono (fun v h' e => ?_) (k_50))
  obtain ⟨rfl, rfl⟩ := e
  show ORuns g (d + 2) 0 0 iX0_init 43 [(0, .ref (og_b g + 45)), (1, .ref (og_b g + 24))] [.ref (og_b g + 50), .ref (og_b g + 45)] (PS 52 [(45, 1), (36, 1), (36, 2), (1, 5), (1, 6), (1, 7), (1, 8), (1, 9), (1, 10), (1, 11), (1, 12), (1, 16)]) _
  refine p_putR (n := 46) (v := 50) (m := 52) (a := 45) (L' := [(36, 1), (36, 2), (1, 5), (1, 6), (1, 7), (1, 8), (1, 9), (1, 10), (1, 11), (1, 12), (1, 16)]) 1 (by decide) (by decide +kernel) (by decide +kernel) cls_0 fi_0_1 (Or.inr ⟨rfl, rfl, rfl⟩) (fun _ => ⟨rfl, rfl⟩) (ps_obj (by decide +kernel)) gw_191 dX0_init_43 rfl ?_
  exact r_vret (st := []) dX0_init_46 rfl rfl
set_option maxRecDepth 20000 in
theorem k_55 {g : OG} {d : Nat} : OCall g (d + 1) 2 10 iX1_init [.ref (og_b g + 55), .ref (og_b g + 24)] (PS 55 [(55, 0), (55, 1), (55, 2), (53, 0), (53, 1), (36, 2), (1, 5), (1, 6), (1, 7), (1, 8), (1, 9), (1, 10), (1, 11), (1, 12), (1, 16)]) (QV (fun h' => h' = PS 57 [(53, 0), (53, 1), (36, 2), (1, 5), (1, 6), (1, 7), (1, 8), (1, 9), (1, 10), (1, 11), (1, 12), (1, 16)])) := by
  refine ocall_of (by decide) (Nat.le_of_ble_eq_true rfl) ?_
  show ORuns g (d + 1) 2 10 iX1_init 0 [(0, .ref (og_b g + 55)), (1, .ref (og_b g + 24))] [] (PS 55 [(55, 0), (55, 1), (55, 2), (53, 0), (53, 1), (36, 2), (1, 5), (1, 6), (1, 7), (1, 8), (1, 9), (1, 10), (1, 11), (1, 12), (1, 16)]) _
  refine r_aload_n (n := 1) 0 dX1_init_0 rfl rfl ?_
  refine r_objInit (n := 4) gw_161 ⟨gw_85, gw_86⟩ (Nat.le_of_ble_eq_true rfl) dX1_init_1 rfl ?_
  refine r_aload_n (n := 5) 0 dX1_init_4 rfl rfl ?_
  refine r_iconst (n := 6) (v := 5) dX1_init_5 (by decide) rfl ?_
  refine p_newarr (n := 8) (m := 55) (L' := [(55, 0), (55, 1), (55, 2), (53, 0), (53, 1), (36, 2), (1, 5), (1, 6), (1, 7), (1, 8), (1, 9), (1, 10), (1, 11), (1, 12), (1, 16)]) (t := 11) (i0 := 0) (fty := .int) (z := 5) (Z := 5) (mc := 1) (ms := 5) (by decide +kernel) (by decide +kernel) rfl (by decide) (fun _ => rfl) rfl na_int gw_105 (by decide) dX1_init_6 rfl ?_
  show ORuns g (d + 1) 1 5 iX1_init 8 [(0, .ref (og_b g + 55)), (1, .ref (og_b g + 24))] [.ref (og_b g + 56), .ref (og_b g + 55)] (PS 56 [(55, 0), (55, 1), (55, 2), (53, 0), (53, 1), (36, 2), (1, 5), (1, 6), (1, 7), (1, 8), (1, 9), (1, 10), (1, 11), (1, 12), (1, 16)]) _
  refine p_putR (n := 11) (v := 56) (m := 56) (a := 55) (L' := [(55, 0), (55, 2), (53, 0), (53, 1), (36, 2), (1, 5), (1, 6), (1, 7), (1, 8), (1, 9), (1, 10), (1, 11), (1, 12), (1, 16)]) 1 (by decide) (by decide +kernel) (by decide +kernel) cls_1 fi_1_1 (Or.inr ⟨rfl, rfl, rfl⟩) (fun _ => ⟨rfl, rfl⟩) (ps_obj (by decide +kernel)) gw_163 dX1_init_8 rfl ?_
  refine r_aload_n (n := 12) 0 dX1_init_11 rfl rfl ?_
  refine r_iconst (n := 13) (v := 5) dX1_init_12 (by decide) rfl ?_
  refine p_newarr (n := 15) (m := 56) (L' := [(55, 0), (55, 2), (53, 0), (53, 1), (36, 2), (1, 5), (1, 6), (1, 7), (1, 8), (1, 9), (1, 10), (1, 11), (1, 12), (1, 16)]) (t := 11) (i0 := 0) (fty := .int) (z := 5) (Z := 5) (mc := 0) (ms := 0) (by decide +kernel) (by decide +kernel) rfl (by decide) (fun _ => rfl) rfl na_int gw_105 (by decide) dX1_init_13 rfl ?_
  show ORuns g (d + 1) 0 0 iX1_init 15 [(0, .ref (og_b g + 55)), (1, .ref (og_b g + 24))] [.ref (og_b g + 57), .ref (og_b g + 55)] (PS 57 [(55, 0), (55, 2), (53, 0), (53, 1), (36, 2), (1, 5), (1, 6), (1, 7), (1, 8), (1, 9), (1, 10), (1, 11), (1, 12), (1, 16)]) _
  refine p_putR (n := 18) (v := 57) (m := 57) (a := 55) (L' := [(55, 0), (53, 0), (53, 1), (36, 2), (1, 5), (1, 6), (1, 7), (1, 8), (1, 9), (1, 10), (1, 11), (1, 12), (1, 16)]) 2 (by decide) (by decide +kernel) (by decide +kernel) cls_1 fi_1_2 (Or.inr ⟨rfl, rfl, rfl⟩) (fun _ => ⟨rfl, rfl⟩) (ps_obj (by decide +kernel)) gw_164 dX1_init_15 rfl ?_
  refine r_aload_n (n := 19) 0 dX1_init_18 rfl rfl ?_
  refine r_iconst (n := 20) (v := 0) dX1_init_19 (by decide) rfl ?_
  refine p_putI (n := 23) (m := 57) (a := 55) (L' := [(55, 0), (53, 0), (53, 1), (36, 2), (1, 5), (1, 6), (1, 7), (1, 8), (1, 9), (1, 10), (1, 11), (1, 12), (1, 16)]) 3 (by decide +kernel) (by decide +kernel) cls_1 fp_1_3 (ps_obj (by decide +kernel)) gw_165 dX1_init_20 rfl ?_
  refine r_aload_n (n := 24) 0 dX1_init_23 rfl rfl ?_
  refine r_iconst (n := 25) (v := 0) dX1_init_24 (by decide) rfl ?_
  refine p_putI (n := 28) (m := 57) (a := 55) (L' := [(55, 0), (53, 0), (53, 1), (36, 2), (1, 5), (1, 6), (1, 7), (1, 8), (1, 9), (1, 10), (1, 11), (1, 12), (1, 16)]) 4 (by decide +kernel) (by decide +kernel) cls_1 fp_1_4 (ps_obj (by decide +kernel)) gw_169 dX1_init_25 rfl ?_
  refine r_aload_n (n := 29) 0 dX1_init_28 rfl rfl ?_
  refine r_iconst (n := 30) (v := 0) dX1_init_29 (by decide) rfl ?_
  refine p_putZ (n := 33) (m := 57) (a := 55) (L' := [(55, 0), (53, 0), (53, 1), (36, 2), (1, 5), (1, 6), (1, 7), (1, 8), (1, 9), (1, 10), (1, 11), (1, 12), (1, 16)]) 5 (by decide) (by decide +kernel) (by decide +kernel) cls_1 fp_1_5 (ps_obj (by decide +kernel)) gw_171 dX1_init_30 rfl ?_
  refine r_aload_n (n := 34) 0 dX1_init_33 rfl rfl ?_
  refine r_iconst (n := 35) (v := 0) dX1_init_34 (by decide) rfl ?_
  refine p_putZ (n := 38) (m := 57) (a := 55) (L' := [(55, 0), (53, 0), (53, 1), (36, 2), (1, 5), (1, 6), (1, 7), (1, 8), (1, 9), (1, 10), (1, 11), (1, 12), (1, 16)]) 6 (by decide) (by decide +kernel) (by decide +kernel) cls_1 fp_1_6 (ps_obj (by decide +kernel)) gw_173 dX1_init_35 rfl ?_
  refine r_aload_n (n := 39) 0 dX1_init_38 rfl rfl ?_
  refine r_aload_n (n := 40) 1 dX1_init_39 rfl rfl ?_
  refine p_putR (n := 43) (v := 24) (m := 57) (a := 55) (L' := [(53, 0), (53, 1), (36, 2), (1, 5), (1, 6), (1, 7), (1, 8), (1, 9), (1, 10), (1, 11), (1, 12), (1, 16)]) 0 (by decide) (by decide +kernel) (by decide +kernel) cls_1 fi_1_0 (Or.inr ⟨rfl, rfl, rfl⟩) (fun _ => ⟨rfl, rfl⟩) (ps_obj (by decide +kernel)) gw_162 dX1_init_40 rfl ?_
  exact r_vret (st := []) dX1_init_43 rfl rfl
set_option maxRecDepth 20000 in
theorem k_58 {g : OG} {d : Nat} : OCall g (d + 1) 2 10 iX1_init [.ref (og_b g + 58), .ref (og_b g + 24)] (PS 58 [(58, 0), (58, 1), (58, 2), (53, 1), (36, 2), (1, 5), (1, 6), (1, 7), (1, 8), (1, 9), (1, 10), (1, 11), (1, 12), (1, 16)]) (QV (fun h' => h' = PS 60 [(53, 1), (36, 2), (1, 5), (1, 6), (1, 7), (1, 8), (1, 9), (1, 10), (1, 11), (1, 12), (1, 16)])) := by
  refine ocall_of (by decide) (Nat.le_of_ble_eq_true rfl) ?_
  show ORuns g (d + 1) 2 10 iX1_init 0 [(0, .ref (og_b g + 58)), (1, .ref (og_b g + 24))] [] (PS 58 [(58, 0), (58, 1), (58, 2), (53, 1), (36, 2), (1, 5), (1, 6), (1, 7), (1, 8), (1, 9), (1, 10), (1, 11), (1, 12), (1, 16)]) _
  refine r_aload_n (n := 1) 0 dX1_init_0 rfl rfl ?_
  refine r_objInit (n := 4) gw_161 ⟨gw_85, gw_86⟩ (Nat.le_of_ble_eq_true rfl) dX1_init_1 rfl ?_
  refine r_aload_n (n := 5) 0 dX1_init_4 rfl rfl ?_
  refine r_iconst (n := 6) (v := 5) dX1_init_5 (by decide) rfl ?_
  refine p_newarr (n := 8) (m := 58) (L' := [(58, 0), (58, 1), (58, 2), (53, 1), (36, 2), (1, 5), (1, 6), (1, 7), (1, 8), (1, 9), (1, 10), (1, 11), (1, 12), (1, 16)]) (t := 11) (i0 := 0) (fty := .int) (z := 5) (Z := 5) (mc := 1) (ms := 5) (by decide +kernel) (by decide +kernel) rfl (by decide) (fun _ => rfl) rfl na_int gw_105 (by decide) dX1_init_6 rfl ?_
  show ORuns g (d + 1) 1 5 iX1_init 8 [(0, .ref (og_b g + 58)), (1, .ref (og_b g + 24))] [.ref (og_b g + 59), .ref (og_b g + 58)] (PS 59 [(58, 0), (58, 1), (58, 2), (53, 1), (36, 2), (1, 5), (1, 6), (1, 7), (1, 8), (1, 9), (1, 10), (1, 11), (1, 12), (1, 16)]) _
  refine p_putR (n := 11) (v := 59) (m := 59) (a := 58) (L' := [(58, 0), (58, 2), (53, 1), (36, 2), (1, 5), (1, 6), (1, 7), (1, 8), (1, 9), (1, 10), (1, 11), (1, 12), (1, 16)]) 1 (by decide) (by decide +kernel) (by decide +kernel) cls_1 fi_1_1 (Or.inr ⟨rfl, rfl, rfl⟩) (fun _ => ⟨rfl, rfl⟩) (ps_obj (by decide +kernel)) gw_163 dX1_init_8 rfl ?_
  refine r_aload_n (n := 12) 0 dX1_init_11 rfl rfl ?_
  refine r_iconst (n := 13) (v := 5) dX1_init_12 (by decide) rfl ?_
  refine p_newarr (n := 15) (m := 59) (L' := [(58, 0), (58, 2), (53, 1), (36, 2), (1, 5), (1, 6), (1, 7), (1, 8), (1, 9), (1, 10), (1, 11), (1, 12), (1, 16)]) (t := 11) (i0 := 0) (fty := .int) (z := 5) (Z := 5) (mc := 0) (ms := 0) (by decide +kernel) (by decide +kernel) rfl (by decide) (fun _ => rfl) rfl na_int gw_105 (by decide) dX1_init_13 rfl ?_
  show ORuns g (d + 1) 0 0 iX1_init 15 [(0, .ref (og_b g + 58)), (1, .ref (og_b g + 24))] [.ref (og_b g + 60), .ref (og_b g + 58)] (PS 60 [(58, 0), (58, 2), (53, 1), (36, 2), (1, 5), (1, 6), (1, 7), (1, 8), (1, 9), (1, 10), (1, 11), (1, 12), (1, 16)]) _
  refine p_putR (n := 18) (v := 60) (m := 60) (a := 58) (L' := [(58, 0), (53, 1), (36, 2), (1, 5), (1, 6), (1, 7), (1, 8), (1, 9), (1, 10), (1, 11), (1, 12), (1, 16)]) 2 (by decide) (by decide +kernel) (by decide +kernel) cls_1 fi_1_2 (Or.inr ⟨rfl, rfl, rfl⟩) (fun _ => ⟨rfl, rfl⟩) (ps_obj (by decide +kernel)) gw_164 dX1_init_15 rfl ?_
  refine r_aload_n (n := 19) 0 dX1_init_18 rfl rfl ?_
  refine r_iconst (n := 20) (v := 0) dX1_init_19 (by decide) rfl ?_
  refine p_putI (n := 23) (m := 60) (a := 58) (L' := [(58, 0), (53, 1), (36, 2), (1, 5), (1, 6), (1, 7), (1, 8), (1, 9), (1, 10), (1, 11), (1, 12), (1, 16)]) 3 (by decide +kernel) (by decide +kernel) cls_1 fp_1_3 (ps_obj (by decide +kernel)) gw_165 dX1_init_20 rfl ?_
  refine r_aload_n (n := 24) 0 dX1_init_23 rfl rfl ?_
  refine r_iconst (n := 25) (v := 0) dX1_init_24 (by decide) rfl ?_
  refine p_putI (n := 28) (m := 60) (a := 58) (L' := [(58, 0), (53, 1), (36, 2), (1, 5), (1, 6), (1, 7), (1, 8), (1, 9), (1, 10), (1, 11), (1, 12), (1, 16)]) 4 (by decide +kernel) (by decide +kernel) cls_1 fp_1_4 (ps_obj (by decide +kernel)) gw_169 dX1_init_25 rfl ?_
  refine r_aload_n (n := 29) 0 dX1_init_28 rfl rfl ?_
  refine r_iconst (n := 30) (v := 0) dX1_init_29 (by decide) rfl ?_
  refine p_putZ (n := 33) (m := 60) (a := 58) (L' := [(58, 0), (53, 1), (36, 2), (1, 5), (1, 6), (1, 7), (1, 8), (1, 9), (1, 10), (1, 11), (1, 12), (1, 16)]) 5 (by decide) (by decide +kernel) (by decide +kernel) cls_1 fp_1_5 (ps_obj (by decide +kernel)) gw_171 dX1_init_30 rfl ?_
  refine r_aload_n (n := 34) 0 dX1_init_33 rfl rfl ?_
  refine r_iconst (n := 35) (v := 0) dX1_init_34 (by decide) rfl ?_
  refine p_putZ (n := 38) (m := 60) (a := 58) (L' := [(58, 0), (53, 1), (36, 2), (1, 5), (1, 6), (1, 7), (1, 8), (1, 9), (1, 10), (1, 11), (1, 12), (1, 16)]) 6 (by decide) (by decide +kernel) (by decide +kernel) cls_1 fp_1_6 (ps_obj (by decide +kernel)) gw_173 dX1_init_35 rfl ?_
  refine r_aload_n (n := 39) 0 dX1_init_38 rfl rfl ?_
  refine r_aload_n (n := 40) 1 dX1_init_39 rfl rfl ?_
  refine p_putR (n := 43) (v := 24) (m := 60) (a := 58) (L' := [(53, 1), (36, 2), (1, 5), (1, 6), (1, 7), (1, 8), (1, 9), (1, 10), (1, 11), (1, 12), (1, 16)]) 0 (by decide) (by decide +kernel) (by decide +kernel) cls_1 fi_1_0 (Or.inr ⟨rfl, rfl, rfl⟩) (fun _ => ⟨rfl, rfl⟩) (ps_obj (by decide +kernel)) gw_162 dX1_init_40 rfl ?_
  exact r_vret (st := []) dX1_init_43 rfl rfl
set_option maxRecDepth 20000 in
theorem k_53 {g : OG} {d : Nat} : OCall g (d + 2) 7 74 iX0_init [.ref (og_b g + 53), .ref (og_b g + 24)] (PS 53 [(53, 0), (53, 1), (53, 2), (36, 2), (1, 5), (1, 6), (1, 7), (1, 8), (1, 9), (1, 10), (1, 11), (1, 12), (1, 16)]) (QV (fun h' => h' = PS 60 [(36, 2), (1, 5), (1, 6), (1, 7), (1, 8), (1, 9), (1, 10), (1, 11), (1, 12), (1, 16)])) := by
  refine ocall_of (by decide) (Nat.le_of_ble_eq_true rfl) ?_
  show ORuns g (d + 2) 7 74 iX0_init 0 [(0, .ref (og_b g + 53)), (1, .ref (og_b g + 24))] [] (PS 53 [(53, 0), (53, 1), (53, 2), (36, 2), (1, 5), (1, 6), (1, 7), (1, 8), (1, 9), (1, 10), (1, 11), (1, 12), (1, 16)]) _
  refine r_aload_n (n := 1) 0 dX0_init_0 rfl rfl ?_
  refine r_objInit (n := 4) gw_155 ⟨gw_85, gw_86⟩ (Nat.le_of_ble_eq_true rfl) dX0_init_1 rfl ?_
  refine r_aload_n (n := 5) 0 dX0_init_4 rfl rfl ?_
  refine r_bipush (n := 7) (v := 40) dX0_init_5 (by decide) rfl ?_
  refine p_newarr (n := 9) (m := 53) (L' := [(53, 0), (53, 1), (53, 2), (36, 2), (1, 5), (1, 6), (1, 7), (1, 8), (1, 9), (1, 10), (1, 11), (1, 12), (1, 16)]) (t := 11) (i0 := 0) (fty := .int) (z := 40) (Z := 40) (mc := 6) (ms := 34) (by decide +kernel) (by decide +kernel) rfl (by decide) (fun _ => rfl) rfl na_int gw_105 (by decide) dX0_init_7 rfl ?_
  show ORuns g (d + 2) 6 34 iX0_init 9 [(0, .ref (og_b g + 53)), (1, .ref (og_b g + 24))] [.ref (og_b g + 54), .ref (og_b g + 53)] (PS 54 [(53, 0), (53, 1), (53, 2), (36, 2), (1, 5), (1, 6), (1, 7), (1, 8), (1, 9), (1, 10), (1, 11), (1, 12), (1, 16)]) _
  refine p_putR (n := 12) (v := 54) (m := 54) (a := 53) (L' := [(53, 0), (53, 1), (36, 2), (1, 5), (1, 6), (1, 7), (1, 8), (1, 9), (1, 10), (1, 11), (1, 12), (1, 16)]) 2 (by decide) (by decide +kernel) (by decide +kernel) cls_0 fi_0_2 (Or.inr ⟨rfl, rfl, rfl⟩) (fun _ => ⟨rfl, rfl⟩) (ps_obj (by decide +kernel)) gw_193 dX0_init_9 rfl ?_
  refine r_aload_n (n := 13) 0 dX0_init_12 rfl rfl ?_
  refine r_iconst (n := 14) (v := 0) dX0_init_13 (by decide) rfl ?_
  refine p_putI (n := 17) (m := 54) (a := 53) (L' := [(53, 0), (53, 1), (36, 2), (1, 5), (1, 6), (1, 7), (1, 8), (1, 9), (1, 10), (1, 11), (1, 12), (1, 16)]) 3 (by decide +kernel) (by decide +kernel) cls_0 fp_0_3 (ps_obj (by decide +kernel)) gw_194 dX0_init_14 rfl ?_
  refine r_aload_n (n := 18) 0 dX0_init_17 rfl rfl ?_
  refine r_iconst (n := 19) (v := 0) dX0_init_18 (by decide) rfl ?_
  refine p_putZ (n := 22) (m := 54) (a := 53) (L' := [(53, 0), (53, 1), (36, 2), (1, 5), (1, 6), (1, 7), (1, 8), (1, 9), (1, 10), (1, 11), (1, 12), (1, 16)]) 4 (by decide) (by decide +kernel) (by decide +kernel) cls_0 fp_0_4 (ps_obj (by decide +kernel)) gw_196 dX0_init_19 rfl ?_
  refine r_aload_n (n := 23) 0 dX0_init_22 rfl rfl ?_
  refine p_new (n := 26) (m := 54) (L' := [(55, 0), (55, 1), (55, 2), (53, 0), (53, 1), (36, 2), (1, 5), (1, 6), (1, 7), (1, 8), (1, 9), (1, 10), (1, 11), (1, 12), (1, 16)]) (mc := 5) (ms := 27) (by decide +kernel) (by decide +kernel) cls_1 ⟨gw_156, gw_157, gw_69⟩ dv_1 dX0_init_23 rfl ?_
  show ORuns g (d + 2) 5 27 iX0_init 26 [(0, .ref (og_b g + 53)), (1, .ref (og_b g + 24))] [.ref (og_b g + 55), .ref (og_b g + 53)] (PS 55 [(55, 0), (55, 1), (55, 2), (53, 0), (53, 1), (36, 2), (1, 5), (1, 6), (1, 7), (1, 8), (1, 9), (1, 10), (1, 11), (1, 12), (1, 16)]) _
  refine r_dup (n := 27) dX0_init_26 rfl rfl ?_
  refine r_aload_n (n := 28) 1 dX0_init_27 rfl rfl ?_
  refine r_callI (n := 31) (a := 55) (mc' := 2) (ms' := 10) (mc := 3) (ms := 17) (As := [.ref (og_b g + 24)]) (rest := [.ref (og_b g + 55), .ref (og_b g + 53)]) cm_X1_init gw_158 rfl (Nat.le_of_ble_eq_true rfl) dX0_init_28 rfl (ocall_mono (fun v h' e => ?_) (k_55))
  obtain ⟨rfl, rfl⟩ := e
  show ORuns g (d + 2) 3 17 iX0_init 31 [(0, .ref (og_b g + 53)), (1, .ref (og_b g + 24))] [.ref (og_b g + 55), .ref (og_b g + 53)] (PS 57 [(53, 0), (53, 1), (36, 2), (1, 5), (1, 6), (1, 7), (1, 8), (1, 9), (1, 10), (1, 11), (1, 12), (1, 16)]) _
  refine p_putR (n := 34) (v := 55) (m := 57) (a := 53) (L' := [(53, 1), (36, 2), (1, 5), (1, 6), (1, 7), (1, 8), (1, 9), (1, 10), (1, 11), (1, 12), (1, 16)]) 0 (by decide) (by decide +kernel) (by decide +kernel) cls_0 fi_0_0 (Or.inr ⟨rfl, rfl, rfl⟩) (fun _ => ⟨rfl, rfl⟩) (ps_obj (by decide +kernel)) gw_189 dX0_init_31 rfl ?_
  refine r_aload_n (n := 35) 0 dX0_init_34 rfl rfl ?_
  refine p_new (n := 38) (m := 57) (L' := [(58, 0), (58, 1), (58, 2), (53, 1), (36, 2), (1, 5), (1, 6), (1, 7), (1, 8), (1, 9), (1, 10), (1, 11), (1, 12), (1, 16)]) (mc := 2) (ms := 10) (by decide +kernel) (by decide +kernel) cls_1 ⟨gw_156, gw_157, gw_69⟩ dv_1 dX0_init_35 rfl ?_
  show ORuns g (d + 2) 2 10 iX0_init 38 [(0, .ref (og_b g + 53)), (1, .ref (og_b g + 24))] [.ref (og_b g + 58), .ref (og_b g + 53)] (PS 58 [(58, 0), (58, 1), (58, 2), (53, 1), (36, 2), (1, 5), (1, 6), (1, 7), (1, 8), (1, 9), (1, 10), (1, 11), (1, 12), (1, 16)]) _
  refine r_dup (n := 39) dX0_init_38 rfl rfl ?_
  refine r_aload_n (n := 40) 1 dX0_init_39 rfl rfl ?_
  refine r_callI (n := 43) (a := 58) (mc' := 2) (ms' := 10) (mc := 0) (ms := 0) (As := [.ref (og_b g + 24)]) (rest := [.ref (og_b g + 58), .ref (og_b g + 53)]) cm_X1_init gw_158 rfl (Nat.le_of_ble_eq_true rfl) dX0_init_40 rfl (ocall_mono (fun v h' e => ?_) (k_58))
  obtain ⟨rfl, rfl⟩ := e
  show ORuns g (d + 2) 0 0 iX0_init 43 [(0, .ref (og_b g + 53)), (1, .ref (og_b g + 24))] [.ref (og_b g + 58), .ref (og_b g + 53)] (PS 60 [(53, 1), (36, 2), (1, 5), (1, 6), (1, 7), (1, 8), (1, 9), (1, 10), (1, 11), (1, 12), (1, 16)]) _
  refine p_putR (n := 46) (v := 58) (m := 60) (a := 53) (L' := [(36, 2), (1, 5), (1, 6), (1, 7), (1, 8), (1, 9), (1, 10), (1, 11), (1, 12), (1, 16)]) 1 (by decide) (by decide +kernel) (by decide +kernel) cls_0 fi_0_1 (Or.inr ⟨rfl, rfl, rfl⟩) (fun _ => ⟨rfl, rfl⟩) (ps_obj (by decide +kernel)) gw_191 dX0_init_43 rfl ?_
  exact r_vret (st := []) dX0_init_46 rfl rfl
set_option maxRecDepth 20000 in
theorem k_61 {g : OG} {d : Nat} : OCall g (d + 1) 0 0 iX6_init [.ref (og_b g + 61)] (PS 61 [(1, 5), (1, 6), (1, 7), (1, 8), (1, 9), (1, 10), (1, 11), (1, 12), (1, 16)]) (QV (fun h' => h' = PS 61 [(1, 5), (1, 6), (1, 7), (1, 8), (1, 9), (1, 10), (1, 11), (1, 12), (1, 16)])) := by
  refine ocall_of (by decide) (Nat.le_of_ble_eq_true rfl) ?_
  show ORuns g (d + 1) 0 0 iX6_init 0 [(0, .ref (og_b g + 61))] [] (PS 61 [(1, 5), (1, 6), (1, 7), (1, 8), (1, 9), (1, 10), (1, 11), (1, 12), (1, 16)]) _
  refine r_aload_n (n := 1) 0 dX6_init_0 rfl rfl ?_
  refine r_objInit (n := 4) gw_215 ⟨gw_85, gw_86⟩ (Nat.le_of_ble_eq_true rfl) dX6_init_1 rfl ?_
  exact r_vret (st := []) dX6_init_4 rfl rfl
set_option maxRecDepth 20000 in
theorem k_62 {g : OG} {d : Nat} : OCall g (d + 1) 3 16 iX3_init [.ref (og_b g + 62)] (PS 62 [(62, 0), (62, 1), (62, 2), (1, 6), (1, 7), (1, 8), (1, 9), (1, 10), (1, 11), (1, 12), (1, 16)]) (QV (fun h' => h' = PS 65 [(1, 6), (1, 7), (1, 8), (1, 9), (1, 10), (1, 11), (1, 12), (1, 16)])) := by
  refine ocall_of (by decide) (Nat.le_of_ble_eq_true rfl) ?_
  show ORuns g (d + 1) 3 16 iX3_init 0 [(0, .ref (og_b g + 62))] [] (PS 62 [(62, 0), (62, 1), (62, 2), (1, 6), (1, 7), (1, 8), (1, 9), (1, 10), (1, 11), (1, 12), (1, 16)]) _
  refine r_aload_n (n := 1) 0 dX3_init_0 rfl rfl ?_
  refine r_objInit (n := 4) gw_127 ⟨gw_85, gw_86⟩ (Nat.le_of_ble_eq_true rfl) dX3_init_1 rfl ?_
  refine r_aload_n (n := 5) 0 dX3_init_4 rfl rfl ?_
  refine r_iconst (n := 6) (v := 5) dX3_init_5 (by decide) rfl ?_
  refine p_newarr (n := 8) (m := 62) (L' := [(62, 0), (62, 1), (62, 2), (1, 6), (1, 7), (1, 8), (1, 9), (1, 10), (1, 11), (1, 12), (1, 16)]) (t := 11) (i0 := 0) (fty := .int) (z := 5) (Z := 5) (mc := 2) (ms := 11) (by decide +kernel) (by decide +kernel) rfl (by decide) (fun _ => rfl) rfl na_int gw_105 (by decide) dX3_init_6 rfl ?_
  show ORuns g (d + 1) 2 11 iX3_init 8 [(0, .ref (og_b g + 62))] [.ref (og_b g + 63), .ref (og_b g + 62)] (PS 63 [(62, 0), (62, 1), (62, 2), (1, 6), (1, 7), (1, 8), (1, 9), (1, 10), (1, 11), (1, 12), (1, 16)]) _
  refine p_putR (n := 11) (v := 63) (m := 63) (a := 62) (L' := [(62, 1), (62, 2), (1, 6), (1, 7), (1, 8), (1, 9), (1, 10), (1, 11), (1, 12), (1, 16)]) 0 (by decide) (by decide +kernel) (by decide +kernel) cls_2 fi_2_0 (Or.inr ⟨rfl, rfl, rfl⟩) (fun _ => ⟨rfl, rfl⟩) (ps_obj (by decide +kernel)) gw_128 dX3_init_8 rfl ?_
  refine r_aload_n (n := 12) 0 dX3_init_11 rfl rfl ?_
  refine r_iconst (n := 13) (v := 5) dX3_init_12 (by decide) rfl ?_
  refine p_newarr (n := 15) (m := 63) (L' := [(62, 1), (62, 2), (1, 6), (1, 7), (1, 8), (1, 9), (1, 10), (1, 11), (1, 12), (1, 16)]) (t := 11) (i0 := 0) (fty := .int) (z := 5) (Z := 5) (mc := 1) (ms := 6) (by decide +kernel) (by decide +kernel) rfl (by decide) (fun _ => rfl) rfl na_int gw_105 (by decide) dX3_init_13 rfl ?_
  show ORuns g (d + 1) 1 6 iX3_init 15 [(0, .ref (og_b g + 62))] [.ref (og_b g + 64), .ref (og_b g + 62)] (PS 64 [(62, 1), (62, 2), (1, 6), (1, 7), (1, 8), (1, 9), (1, 10), (1, 11), (1, 12), (1, 16)]) _
  refine p_putR (n := 18) (v := 64) (m := 64) (a := 62) (L' := [(62, 2), (1, 6), (1, 7), (1, 8), (1, 9), (1, 10), (1, 11), (1, 12), (1, 16)]) 1 (by decide) (by decide +kernel) (by decide +kernel) cls_2 fi_2_1 (Or.inr ⟨rfl, rfl, rfl⟩) (fun _ => ⟨rfl, rfl⟩) (ps_obj (by decide +kernel)) gw_130 dX3_init_15 rfl ?_
  refine r_aload_n (n := 19) 0 dX3_init_18 rfl rfl ?_
  refine r_bipush (n := 21) (v := 6) dX3_init_19 (by decide) rfl ?_
  refine p_newarr (n := 23) (m := 64) (L' := [(62, 2), (1, 6), (1, 7), (1, 8), (1, 9), (1, 10), (1, 11), (1, 12), (1, 16)]) (t := 11) (i0 := 0) (fty := .int) (z := 6) (Z := 6) (mc := 0) (ms := 0) (by decide +kernel) (by decide +kernel) rfl (by decide) (fun _ => rfl) rfl na_int gw_105 (by decide) dX3_init_21 rfl ?_
  show ORuns g (d + 1) 0 0 iX3_init 23 [(0, .ref (og_b g + 62))] [.ref (og_b g + 65), .ref (og_b g + 62)] (PS 65 [(62, 2), (1, 6), (1, 7), (1, 8), (1, 9), (1, 10), (1, 11), (1, 12), (1, 16)]) _
  refine p_putR (n := 26) (v := 65) (m := 65) (a := 62) (L' := [(1, 6), (1, 7), (1, 8), (1, 9), (1, 10), (1, 11), (1, 12), (1, 16)]) 2 (by decide) (by decide +kernel) (by decide +kernel) cls_2 fi_2_2 (Or.inr ⟨rfl, rfl, rfl⟩) (fun _ => ⟨rfl, rfl⟩) (ps_obj (by decide +kernel)) gw_132 dX3_init_23 rfl ?_
  refine r_aload_n (n := 27) 0 dX3_init_26 rfl rfl ?_
  refine r_iconst (n := 28) (v := 0) dX3_init_27 (by decide) rfl ?_
  refine p_putI (n := 31) (m := 65) (a := 62) (L' := [(1, 6), (1, 7), (1, 8), (1, 9), (1, 10), (1, 11), (1, 12), (1, 16)]) 3 (by decide +kernel) (by decide +kernel) cls_2 fp_2_3 (ps_obj (by decide +kernel)) gw_133 dX3_init_28 rfl ?_
  refine r_aload_n (n := 32) 0 dX3_init_31 rfl rfl ?_
  refine r_iconst (n := 33) (v := 0) dX3_init_32 (by decide) rfl ?_
  refine p_putI (n := 36) (m := 65) (a := 62) (L' := [(1, 6), (1, 7), (1, 8), (1, 9), (1, 10), (1, 11), (1, 12), (1, 16)]) 4 (by decide +kernel) (by decide +kernel) cls_2 fp_2_4 (ps_obj (by decide +kernel)) gw_134 dX3_init_33 rfl ?_
  exact r_vret (st := []) dX3_init_36 rfl rfl
set_option maxRecDepth 20000 in
theorem k_66 {g : OG} {d : Nat} : OCall g (d + 1) 2 10 iX1_init [.ref (og_b g + 66), .ref (og_b g + 62)] (PS 66 [(66, 0), (66, 1), (66, 2), (1, 7), (1, 8), (1, 9), (1, 10), (1, 11), (1, 12), (1, 16)]) (QV (fun h' => h' = PS 68 [(1, 7), (1, 8), (1, 9), (1, 10), (1, 11), (1, 12), (1, 16)])) := by
  refine ocall_of (by decide) (Nat.le_of_ble_eq_true rfl) ?_
  show ORuns g (d + 1) 2 10 iX1_init 0 [(0, .ref (og_b g + 66)), (1, .ref (og_b g + 62))] [] (PS 66 [(66, 0), (66, 1), (66, 2), (1, 7), (1, 8), (1, 9), (1, 10), (1, 11), (1, 12), (1, 16)]) _
  refine r_aload_n (n := 1) 0 dX1_init_0 rfl rfl ?_
  refine r_objInit (n := 4) gw_161 ⟨gw_85, gw_86⟩ (Nat.le_of_ble_eq_true rfl) dX1_init_1 rfl ?_
  refine r_aload_n (n := 5) 0 dX1_init_4 rfl rfl ?_
  refine r_iconst (n := 6) (v := 5) dX1_init_5 (by decide) rfl ?_
  refine p_newarr (n := 8) (m := 66) (L' := [(66, 0), (66, 1), (66, 2), (1, 7), (1, 8), (1, 9), (1, 10), (1, 11), (1, 12), (1, 16)]) (t := 11) (i0 := 0) (fty := .int) (z := 5) (Z := 5) (mc := 1) (ms := 5) (by decide +kernel) (by decide +kernel) rfl (by decide) (fun _ => rfl) rfl na_int gw_105 (by decide) dX1_init_6 rfl ?_
  show ORuns g (d + 1) 1 5 iX1_init 8 [(0, .ref (og_b g + 66)), (1, .ref (og_b g + 62))] [.ref (og_b g + 67), .ref (og_b g + 66)] (PS 67 [(66, 0), (66, 1), (66, 2), (1, 7), (1, 8), (1, 9), (1, 10), (1, 11), (1, 12), (1, 16)]) _
  refine p_putR (n := 11) (v := 67) (m := 67) (a := 66) (L' := [(66, 0), (66, 2), (1, 7), (1, 8), (1, 9), (1, 10), (1, 11), (1, 12), (1, 16)]) 1 (by decide) (by decide +kernel) (by decide +kernel) cls_1 fi_1_1 (Or.inr ⟨rfl, rfl, rfl⟩) (fun _ => ⟨rfl, rfl⟩) (ps_obj (by decide +kernel)) gw_163 dX1_init_8 rfl ?_
  refine r_aload_n (n := 12) 0 dX1_init_11 rfl rfl ?_
  refine r_iconst (n := 13) (v := 5) dX1_init_12 (by decide) rfl ?_
  refine p_newarr (n := 15) (m := 67) (L' := [(66, 0), (66, 2), (1, 7), (1, 8), (1, 9), (1, 10), (1, 11), (1, 12), (1, 16)]) (t := 11) (i0 := 0) (fty := .int) (z := 5) (Z := 5) (mc := 0) (ms := 0) (by decide +kernel) (by decide +kernel) rfl (by decide) (fun _ => rfl) rfl na_int gw_105 (by decide) dX1_init_13 rfl ?_
  show ORuns g (d + 1) 0 0 iX1_init 15 [(0, .ref (og_b g + 66)), (1, .ref (og_b g + 62))] [.ref (og_b g + 68), .ref (og_b g + 66)] (PS 68 [(66, 0), (66, 2), (1, 7), (1, 8), (1, 9), (1, 10), (1, 11), (1, 12), (1, 16)]) _
  refine p_putR (n := 18) (v := 68) (m := 68) (a := 66) (L' := [(66, 0), (1, 7), (1, 8), (1, 9), (1, 10), (1, 11), (1, 12), (1, 16)]) 2 (by decide) (by decide +kernel) (by decide +kernel) cls_1 fi_1_2 (Or.inr ⟨rfl, rfl, rfl⟩) (fun _ => ⟨rfl, rfl⟩) (ps_obj (by decide +kernel)) gw_164 dX1_init_15 rfl ?_
  refine r_aload_n (n := 19) 0 dX1_init_18 rfl rfl ?_
  refine r_iconst (n := 20) (v := 0) dX1_init_19 (by decide) rfl ?_
  refine p_putI (n := 23) (m := 68) (a := 66) (L' := [(66, 0), (1, 7), (1, 8), (1, 9), (1, 10), (1, 11), (1, 12), (1, 16)]) 3 (by decide +kernel) (by decide +kernel) cls_1 fp_1_3 (ps_obj (by decide +kernel)) gw_165 dX1_init_20 rfl ?_
  refine r_aload_n (n := 24) 0 dX1_init_23 rfl rfl ?_
  refine r_iconst (n := 25) (v := 0) dX1_init_24 (by decide) rfl ?_
  refine p_putI (n := 28) (m := 68) (a := 66) (L' := [(66, 0), (1, 7), (1, 8), (1, 9), (1, 10), (1, 11), (1, 12), (1, 16)]) 4 (by decide +kernel) (by decide +kernel) cls_1 fp_1_4 (ps_obj (by decide +kernel)) gw_169 dX1_init_25 rfl ?_
  refine r_aload_n (n := 29) 0 dX1_init_28 rfl rfl ?_
  refine r_iconst (n := 30) (v := 0) dX1_init_29 (by decide) rfl ?_
  refine p_putZ (n := 33) (m := 68) (a := 66) (L' := [(66, 0), (1, 7), (1, 8), (1, 9), (1, 10), (1, 11), (1, 12), (1, 16)]) 5 (by decide) (by decide +kernel) (by decide +kernel) cls_1 fp_1_5 (ps_obj (by decide +kernel)) gw_171 dX1_init_30 rfl ?_
  refine r_aload_n (n := 34) 0 dX1_init_33 rfl rfl ?_
  refine r_iconst (n := 35) (v := 0) dX1_init_34 (by decide) rfl ?_
  refine p_putZ (n := 38) (m := 68) (a := 66) (L' := [(66, 0), (1, 7), (1, 8), (1, 9), (1, 10), (1, 11), (1, 12), (1, 16)]) 6 (by decide) (by decide +kernel) (by decide +kernel) cls_1 fp_1_6 (ps_obj (by decide +kernel)) gw_173 dX1_init_35 rfl ?_
  refine r_aload_n (n := 39) 0 dX1_init_38 rfl rfl ?_
  refine r_aload_n (n := 40) 1 dX1_init_39 rfl rfl ?_
  refine p_putR (n := 43) (v := 62) (m := 68) (a := 66) (L' := [(1, 7), (1, 8), (1, 9), (1, 10), (1, 11), (1, 12), (1, 16)]) 0 (by decide) (by decide +kernel) (by decide +kernel) cls_1 fi_1_0 (Or.inr ⟨rfl, rfl, rfl⟩) (fun _ => ⟨rfl, rfl⟩) (ps_obj (by decide +kernel)) gw_162 dX1_init_40 rfl ?_
  exact r_vret (st := []) dX1_init_43 rfl rfl
set_option maxRecDepth 20000 in
theorem k_69 {g : OG} {d : Nat} : OCall g (d + 1) 2 10 iX1_init [.ref (og_b g + 69), .ref (og_b g + 24)] (PS 69 [(69, 0), (69, 1), (69, 2), (1, 8), (1, 9), (1, 10), (1, 11), (1, 12), (1, 16)]) (QV (fun h' => h' = PS 71 [(1, 8), (1, 9), (1, 10), (1, 11), (1, 12), (1, 16)])) := by
  refine ocall_of (by decide) (Nat.le_of_ble_eq_true rfl) ?_
  show ORuns g (d + 1) 2 10 iX1_init 0 [(0, .ref (og_b g + 69)), (1, .ref (og_b g + 24))] [] (PS 69 [(69, 0), (69, 1), (69, 2), (1, 8), (1, 9), (1, 10), (1, 11), (1, 12), (1, 16)]) _
  refine r_aload_n (n := 1) 0 dX1_init_0 rfl rfl ?_
  refine r_objInit (n := 4) gw_161 ⟨gw_85, gw_86⟩ (Nat.le_of_ble_eq_true rfl) dX1_init_1 rfl ?_
  refine r_aload_n (n := 5) 0 dX1_init_4 rfl rfl ?_
  refine r_iconst (n := 6) (v := 5) dX1_init_5 (by decide) rfl ?_
  refine p_newarr (n := 8) (m := 69) (L' := [(69, 0), (69, 1), (69, 2), (1, 8), (1, 9), (1, 10), (1, 11), (1, 12), (1, 16)]) (t := 11) (i0 := 0) (fty := .int) (z := 5) (Z := 5) (mc := 1) (ms := 5) (by decide +kernel) (by decide +kernel) rfl (by decide) (fun _ => rfl) rfl na_int gw_105 (by decide) dX1_init_6 rfl ?_
  show ORuns g (d + 1) 1 5 iX1_init 8 [(0, .ref (og_b g + 69)), (1, .ref (og_b g + 24))] [.ref (og_b g + 70), .ref (og_b g + 69)] (PS 70 [(69, 0), (69, 1), (69, 2), (1, 8), (1, 9), (1, 10), (1, 11), (1, 12), (1, 16)]) _
  refine p_putR (n := 11) (v := 70) (m := 70) (a := 69) (L' := [(69, 0), (69, 2), (1, 8), (1, 9), (1, 10), (1, 11), (1, 12), (1, 16)]) 1 (by decide) (by decide +kernel) (by decide +kernel) cls_1 fi_1_1 (Or.inr ⟨rfl, rfl, rfl⟩) (fun _ => ⟨rfl, rfl⟩) (ps_obj (by decide +kernel)) gw_163 dX1_init_8 rfl ?_
  refine r_aload_n (n := 12) 0 dX1_init_11 rfl rfl ?_
  refine r_iconst (n := 13) (v := 5) dX1_init_12 (by decide) rfl ?_
  refine p_newarr (n := 15) (m := 70) (L' := [(69, 0), (69, 2), (1, 8), (1, 9), (1, 10), (1, 11), (1, 12), (1, 16)]) (t := 11) (i0 := 0) (fty := .int) (z := 5) (Z := 5) (mc := 0) (ms := 0) (by decide +kernel) (by decide +kernel) rfl (by decide) (fun _ => rfl) rfl na_int gw_105 (by decide) dX1_init_13 rfl ?_
  show ORuns g (d + 1) 0 0 iX1_init 15 [(0, .ref (og_b g + 69)), (1, .ref (og_b g + 24))] [.ref (og_b g + 71), .ref (og_b g + 69)] (PS 71 [(69, 0), (69, 2), (1, 8), (1, 9), (1, 10), (1, 11), (1, 12), (1, 16)]) _
  refine p_putR (n := 18) (v := 71) (m := 71) (a := 69) (L' := [(69, 0), (1, 8), (1, 9), (1, 10), (1, 11), (1, 12), (1, 16)]) 2 (by decide) (by decide +kernel) (by decide +kernel) cls_1 fi_1_2 (Or.inr ⟨rfl, rfl, rfl⟩) (fun _ => ⟨rfl, rfl⟩) (ps_obj (by decide +kernel)) gw_164 dX1_init_15 rfl ?_
  refine r_aload_n (n := 19) 0 dX1_init_18 rfl rfl ?_
  refine r_iconst (n := 20) (v := 0) dX1_init_19 (by decide) rfl ?_
  refine p_putI (n := 23) (m := 71) (a := 69) (L' := [(69, 0), (1, 8), (1, 9), (1, 10), (1, 11), (1, 12), (1, 16)]) 3 (by decide +kernel) (by decide +kernel) cls_1 fp_1_3 (ps_obj (by decide +kernel)) gw_165 dX1_init_20 rfl ?_
  refine r_aload_n (n := 24) 0 dX1_init_23 rfl rfl ?_
  refine r_iconst (n := 25) (v := 0) dX1_init_24 (by decide) rfl ?_
  refine p_putI (n := 28) (m := 71) (a := 69) (L' := [(69, 0), (1, 8), (1, 9), (1, 10), (1, 11), (1, 12), (1, 16)]) 4 (by decide +kernel) (by decide +kernel) cls_1 fp_1_4 (ps_obj (by decide +kernel)) gw_169 dX1_init_25 rfl ?_
  refine r_aload_n (n := 29) 0 dX1_init_28 rfl rfl ?_
  refine r_iconst (n := 30) (v := 0) dX1_init_29 (by decide) rfl ?_
  refine p_putZ (n := 33) (m := 71) (a := 69) (L' := [(69, 0), (1, 8), (1, 9), (1, 10), (1, 11), (1, 12), (1, 16)]) 5 (by decide) (by decide +kernel) (by decide +kernel) cls_1 fp_1_5 (ps_obj (by decide +kernel)) gw_171 dX1_init_30 rfl ?_
  refine r_aload_n (n := 34) 0 dX1_init_33 rfl rfl ?_
  refine r_iconst (n := 35) (v := 0) dX1_init_34 (by decide) rfl ?_
  refine p_putZ (n := 38) (m := 71) (a := 69) (L' := [(69, 0), (1, 8), (1, 9), (1, 10), (1, 11), (1, 12), (1, 16)]) 6 (by decide) (by decide +kernel) (by decide +kernel) cls_1 fp_1_6 (ps_obj (by decide +kernel)) gw_173 dX1_init_35 rfl ?_
  refine r_aload_n (n := 39) 0 dX1_init_38 rfl rfl ?_
  refine r_aload_n (n := 40) 1 dX1_init_39 rfl rfl ?_
  refine p_putR (n := 43) (v := 24) (m := 71) (a := 69) (L' := [(1, 8), (1, 9), (1, 10), (1, 11), (1, 12), (1, 16)]) 0 (by decide) (by decide +kernel) (by decide +kernel) cls_1 fi_1_0 (Or.inr ⟨rfl, rfl, rfl⟩) (fun _ => ⟨rfl, rfl⟩) (ps_obj (by decide +kernel)) gw_162 dX1_init_40 rfl ?_
  exact r_vret (st := []) dX1_init_43 rfl rfl
set_option maxRecDepth 20000 in
theorem k_76 {g : OG} {d : Nat} : OCall g (d + 1) 2 10 iX1_init [.ref (og_b g + 76), .ref (og_b g + 24)] (PS 76 [(76, 0), (76, 1), (76, 2), (73, 0), (73, 1), (73, 2), (73, 3), (73, 4), (1, 9), (1, 10), (1, 11), (1, 12), (1, 16)]) (QV (fun h' => h' = PS 78 [(73, 0), (73, 1), (73, 2), (73, 3), (73, 4), (1, 9), (1, 10), (1, 11), (1, 12), (1, 16)])) := by
  refine ocall_of (by decide) (Nat.le_of_ble_eq_true rfl) ?_
  show ORuns g (d + 1) 2 10 iX1_init 0 [(0, .ref (og_b g + 76)), (1, .ref (og_b g + 24))] [] (PS 76 [(76, 0), (76, 1), (76, 2), (73, 0), (73, 1), (73, 2), (73, 3), (73, 4), (1, 9), (1, 10), (1, 11), (1, 12), (1, 16)]) _
  refine r_aload_n (n := 1) 0 dX1_init_0 rfl rfl ?_
  refine r_objInit (n := 4) gw_161 ⟨gw_85, gw_86⟩ (Nat.le_of_ble_eq_true rfl) dX1_init_1 rfl ?_
  refine r_aload_n (n := 5) 0 dX1_init_4 rfl rfl ?_
  refine r_iconst (n := 6) (v := 5) dX1_init_5 (by decide) rfl ?_
  refine p_newarr (n := 8) (m := 76) (L' := [(76, 0), (76, 1), (76, 2), (73, 0), (73, 1), (73, 2), (73, 3), (73, 4), (1, 9), (1, 10), (1, 11), (1, 12), (1, 16)]) (t := 11) (i0 := 0) (fty := .int) (z := 5) (Z := 5) (mc := 1) (ms := 5) (by decide +kernel) (by decide +kernel) rfl (by decide) (fun _ => rfl) rfl na_int gw_105 (by decide) dX1_init_6 rfl ?_
  show ORuns g (d + 1) 1 5 iX1_init 8 [(0, .ref (og_b g + 76)), (1, .ref (og_b g + 24))] [.ref (og_b g + 77), .ref (og_b g + 76)] (PS 77 [(76, 0), (76, 1), (76, 2), (73, 0), (73, 1), (73, 2), (73, 3), (73, 4), (1, 9), (1, 10), (1, 11), (1, 12), (1, 16)]) _
  refine p_putR (n := 11) (v := 77) (m := 77) (a := 76) (L' := [(76, 0), (76, 2), (73, 0), (73, 1), (73, 2), (73, 3), (73, 4), (1, 9), (1, 10), (1, 11), (1, 12), (1, 16)]) 1 (by decide) (by decide +kernel) (by decide +kernel) cls_1 fi_1_1 (Or.inr ⟨rfl, rfl, rfl⟩) (fun _ => ⟨rfl, rfl⟩) (ps_obj (by decide +kernel)) gw_163 dX1_init_8 rfl ?_
  refine r_aload_n (n := 12) 0 dX1_init_11 rfl rfl ?_
  refine r_iconst (n := 13) (v := 5) dX1_init_12 (by decide) rfl ?_
  refine p_newarr (n := 15) (m := 77) (L' := [(76, 0), (76, 2), (73, 0), (73, 1), (73, 2), (73, 3), (73, 4), (1, 9), (1, 10), (1, 11), (1, 12), (1, 16)]) (t := 11) (i0 := 0) (fty := .int) (z := 5) (Z := 5) (mc := 0) (ms := 0) (by decide +kernel) (by decide +kernel) rfl (by decide) (fun _ => rfl) rfl na_int gw_105 (by decide) dX1_init_13 rfl ?_
  show ORuns g (d + 1) 0 0 iX1_init 15 [(0, .ref (og_b g + 76)), (1, .ref (og_b g + 24))] [.ref (og_b g + 78), .ref (og_b g + 76)] (PS 78 [(76, 0), (76, 2), (73, 0), (73, 1), (73, 2), (73, 3), (73, 4), (1, 9), (1, 10), (1, 11), (1, 12), (1, 16)]) _
  refine p_putR (n := 18) (v := 78) (m := 78) (a := 76) (L' := [(76, 0), (73, 0), (73, 1), (73, 2), (73, 3), (73, 4), (1, 9), (1, 10), (1, 11), (1, 12), (1, 16)]) 2 (by decide) (by decide +kernel) (by decide +kernel) cls_1 fi_1_2 (Or.inr ⟨rfl, rfl, rfl⟩) (fun _ => ⟨rfl, rfl⟩) (ps_obj (by decide +kernel)) gw_164 dX1_init_15 rfl ?_
  refine r_aload_n (n := 19) 0 dX1_init_18 rfl rfl ?_
  refine r_iconst (n := 20) (v := 0) dX1_init_19 (by decide) rfl ?_
  refine p_putI (n := 23) (m := 78) (a := 76) (L' := [(76, 0), (73, 0), (73, 1), (73, 2), (73, 3), (73, 4), (1, 9), (1, 10), (1, 11), (1, 12), (1, 16)]) 3 (by decide +kernel) (by decide +kernel) cls_1 fp_1_3 (ps_obj (by decide +kernel)) gw_165 dX1_init_20 rfl ?_
  refine r_aload_n (n := 24) 0 dX1_init_23 rfl rfl ?_
  refine r_iconst (n := 25) (v := 0) dX1_init_24 (by decide) rfl ?_
  refine p_putI (n := 28) (m := 78) (a := 76) (L' := [(76, 0), (73, 0), (73, 1), (73, 2), (73, 3), (73, 4), (1, 9), (1, 10), (1, 11), (1, 12), (1, 16)]) 4 (by decide +kernel) (by decide +kernel) cls_1 fp_1_4 (ps_obj (by decide +kernel)) gw_169 dX1_init_25 rfl ?_
  refine r_aload_n (n := 29) 0 dX1_init_28 rfl rfl ?_
  refine r_iconst (n := 30) (v := 0) dX1_init_29 (by decide) rfl ?_
  refine p_putZ (n := 33) (m := 78) (a := 76) (L' := [(76, 0), (73, 0), (73, 1), (73, 2), (73, 3), (73, 4), (1, 9), (1, 10), (1, 11), (1, 12), (1, 16)]) 5 (by decide) (by decide +kernel) (by decide +kernel) cls_1 fp_1_5 (ps_obj (by decide +kernel)) gw_171 dX1_init_30 rfl ?_
  refine r_aload_n (n := 34) 0 dX1_init_33 rfl rfl ?_
  refine r_iconst (n := 35) (v := 0) dX1_init_34 (by decide) rfl ?_
  refine p_putZ (n := 38) (m := 78) (a := 76) (L' := [(76, 0), (73, 0), (73, 1), (73, 2), (73, 3), (73, 4), (1, 9), (1, 10), (1, 11), (1, 12), (1, 16)]) 6 (by decide) (by decide +kernel) (by decide +kernel) cls_1 fp_1_6 (ps_obj (by decide +kernel)) gw_173 dX1_init_35 rfl ?_
  refine r_aload_n (n := 39) 0 dX1_init_38 rfl rfl ?_
  refine r_aload_n (n := 40) 1 dX1_init_39 rfl rfl ?_
  refine p_putR (n := 43) (v := 24) (m := 78) (a := 76) (L' := [(73, 0), (73, 1), (73, 2), (73, 3), (73, 4), (1, 9), (1, 10), (1, 11), (1, 12), (1, 16)]) 0 (by decide) (by decide +kernel) (by decide +kernel) cls_1 fi_1_0 (Or.inr ⟨rfl, rfl, rfl⟩) (fun _ => ⟨rfl, rfl⟩) (ps_obj (by decide +kernel)) gw_162 dX1_init_40 rfl ?_
  exact r_vret (st := []) dX1_init_43 rfl rfl
set_option maxRecDepth 20000 in
theorem k_79 {g : OG} {d : Nat} : OCall g (d + 1) 2 10 iX1_init [.ref (og_b g + 79), .ref (og_b g + 24)] (PS 79 [(79, 0), (79, 1), (79, 2), (73, 1), (73, 2), (73, 3), (73, 4), (1, 9), (1, 10), (1, 11), (1, 12), (1, 16)]) (QV (fun h' => h' = PS 81 [(73, 1), (73, 2), (73, 3), (73, 4), (1, 9), (1, 10), (1, 11), (1, 12), (1, 16)])) := by
  refine ocall_of (by decide) (Nat.le_of_ble_eq_true rfl) ?_
  show ORuns g (d + 1) 2 10 iX1_init 0 [(0, .ref (og_b g + 79)), (1, .ref (og_b g + 24))] [] (PS 79 [(79, 0), (79, 1), (79, 2), (73, 1), (73, 2), (73, 3), (73, 4), (1, 9), (1, 10), (1, 11), (1, 12), (1, 16)]) _
  refine r_aload_n (n := 1) 0 dX1_init_0 rfl rfl ?_
  refine r_objInit (n := 4) gw_161 ⟨gw_85, gw_86⟩ (Nat.le_of_ble_eq_true rfl) dX1_init_1 rfl ?_
  refine r_aload_n (n := 5) 0 dX1_init_4 rfl rfl ?_
  refine r_iconst (n := 6) (v := 5) dX1_init_5 (by decide) rfl ?_
  refine p_newarr (n := 8) (m := 79) (L' := [(79, 0), (79, 1), (79, 2), (73, 1), (73, 2), (73, 3), (73, 4), (1, 9), (1, 10), (1, 11), (1, 12), (1, 16)]) (t := 11) (i0 := 0) (fty := .int) (z := 5) (Z := 5) (mc := 1) (ms := 5) (by decide +kernel) (by decide +kernel) rfl (by decide) (fun _ => rfl) rfl na_int gw_105 (by decide) dX1_init_6 rfl ?_
  show ORuns g (d + 1) 1 5 iX1_init 8 [(0, .ref (og_b g + 79)), (1, .ref (og_b g + 24))] [.ref (og_b g + 80), .ref (og_b g + 79)] (PS 80 [(79, 0), (79, 1), (79, 2), (73, 1), (73, 2), (73, 3), (73, 4), (1, 9), (1, 10), (1, 11), (1, 12), (1, 16)]) _
  refine p_putR (n := 11) (v := 80) (m := 80) (a := 79) (L' := [(79, 0), (79, 2), (73, 1), (73, 2), (73, 3), (73, 4), (1, 9), (1, 10), (1, 11), (1, 12), (1, 16)]) 1 (by decide) (by decide +kernel) (by decide +kernel) cls_1 fi_1_1 (Or.inr ⟨rfl, rfl, rfl⟩) (fun _ => ⟨rfl, rfl⟩) (ps_obj (by decide +kernel)) gw_163 dX1_init_8 rfl ?_
  refine r_aload_n (n := 12) 0 dX1_init_11 rfl rfl ?_
  refine r_iconst (n := 13) (v := 5) dX1_init_12 (by decide) rfl ?_
  refine p_newarr (n := 15) (m := 80) (L' := [(79, 0), (79, 2), (73, 1), (73, 2), (73, 3), (73, 4), (1, 9), (1, 10), (1, 11), (1, 12), (1, 16)]) (t := 11) (i0 := 0) (fty := .int) (z := 5) (Z := 5) (mc := 0) (ms := 0) (by decide +kernel) (by decide +kernel) rfl (by decide) (fun _ => rfl) rfl na_int gw_105 (by decide) dX1_init_13 rfl ?_
  show ORuns g (d + 1) 0 0 iX1_init 15 [(0, .ref (og_b g + 79)), (1, .ref (og_b g + 24))] [.ref (og_b g + 81), .ref (og_b g + 79)] (PS 81 [(79, 0), (79, 2), (73, 1), (73, 2), (73, 3), (73, 4), (1, 9), (1, 10), (1, 11), (1, 12), (1, 16)]) _
  refine p_putR (n := 18) (v := 81) (m := 81) (a := 79) (L' := [(79, 0), (73, 1), (73, 2), (73, 3), (73, 4), (1, 9), (1, 10), (1, 11), (1, 12), (1, 16)]) 2 (by decide) (by decide +kernel) (by decide +kernel) cls_1 fi_1_2 (Or.inr ⟨rfl, rfl, rfl⟩) (fun _ => ⟨rfl, rfl⟩) (ps_obj (by decide +kernel)) gw_164 dX1_init_15 rfl ?_
  refine r_aload_n (n := 19) 0 dX1_init_18 rfl rfl ?_
  refine r_iconst (n := 20) (v := 0) dX1_init_19 (by decide) rfl ?_
  refine p_putI (n := 23) (m := 81) (a := 79) (L' := [(79, 0), (73, 1), (73, 2), (73, 3), (73, 4), (1, 9), (1, 10), (1, 11), (1, 12), (1, 16)]) 3 (by decide +kernel) (by decide +kernel) cls_1 fp_1_3 (ps_obj (by decide +kernel)) gw_165 dX1_init_20 rfl ?_
  refine r_aload_n (n := 24) 0 dX1_init_23 rfl rfl ?_
  refine r_iconst (n := 25) (v := 0) dX1_init_24 (by decide) rfl ?_
  refine p_putI (n := 28) (m := 81) (a := 79) (L' := [(79, 0), (73, 1), (73, 2), (73, 3), (73, 4), (1, 9), (1, 10), (1, 11), (1, 12), (1, 16)]) 4 (by decide +kernel) (by decide +kernel) cls_1 fp_1_4 (ps_obj (by decide +kernel)) gw_169 dX1_init_25 rfl ?_
  refine r_aload_n (n := 29) 0 dX1_init_28 rfl rfl ?_
  refine r_iconst (n := 30) (v := 0) dX1_init_29 (by decide) rfl ?_
  refine p_putZ (n := 33) (m := 81) (a := 79) (L' := [(79, 0), (73, 1), (73, 2), (73, 3), (73, 4), (1, 9), (1, 10), (1, 11), (1, 12), (1, 16)]) 5 (by decide) (by decide +kernel) (by decide +kernel) cls_1 fp_1_5 (ps_obj (by decide +kernel)) gw_171 dX1_init_30 rfl ?_
  refine r_aload_n (n := 34) 0 dX1_init_33 rfl rfl ?_
  refine r_iconst (n := 35) (v := 0) dX1_init_34 (by decide) rfl ?_
  refine p_putZ (n := 38) (m := 81) (a := 79) (L' := [(79, 0), (73, 1), (73, 2), (73, 3), (73, 4), (1, 9), (1, 10), (1, 11), (1, 12), (1, 16)]) 6 (by decide) (by decide +kernel) (by decide +kernel) cls_1 fp_1_6 (ps_obj (by decide +kernel)) gw_173 dX1_init_35 rfl ?_
  refine r_aload_n (n := 39) 0 dX1_init_38 rfl rfl ?_
  refine r_aload_n (n := 40) 1 dX1_init_39 rfl rfl ?_
  refine p_putR (n := 43) (v := 24) (m := 81) (a := 79) (L' := [(73, 1), (73, 2), (73, 3), (73, 4), (1, 9), (1, 10), (1, 11), (1, 12), (1, 16)]) 0 (by decide) (by decide +kernel) (by decide +kernel) cls_1 fi_1_0 (Or.inr ⟨rfl, rfl, rfl⟩) (fun _ => ⟨rfl, rfl⟩) (ps_obj (by decide +kernel)) gw_162 dX1_init_40 rfl ?_
  exact r_vret (st := []) dX1_init_43 rfl rfl
set_option maxRecDepth 20000 in
theorem k_82 {g : OG} {d : Nat} : OCall g (d + 1) 2 10 iX1_init [.ref (og_b g + 82), .ref (og_b g + 24)] (PS 82 [(82, 0), (82, 1), (82, 2), (73, 2), (73, 3), (73, 4), (1, 9), (1, 10), (1, 11), (1, 12), (1, 16)]) (QV (fun h' => h' = PS 84 [(73, 2), (73, 3), (73, 4), (1, 9), (1, 10), (1, 11), (1, 12), (1, 16)])) := by
  refine ocall_of (by decide) (Nat.le_of_ble_eq_true rfl) ?_
  show ORuns g (d + 1) 2 10 iX1_init 0 [(0, .ref (og_b g + 82)), (1, .ref (og_b g + 24))] [] (PS 82 [(82, 0), (82, 1), (82, 2), (73, 2), (73, 3), (73, 4), (1, 9), (1, 10), (1, 11), (1, 12), (1, 16)]) _
  refine r_aload_n (n := 1) 0 dX1_init_0 rfl rfl ?_
  refine r_objInit (n := 4) gw_161 ⟨gw_85, gw_86⟩ (Nat.le_of_ble_eq_true rfl) dX1_init_1 rfl ?_
  refine r_aload_n (n := 5) 0 dX1_init_4 rfl rfl ?_
  refine r_iconst (n := 6) (v := 5) dX1_init_5 (by decide) rfl ?_
  refine p_newarr (n := 8) (m := 82) (L' := [(82, 0), (82, 1), (82, 2), (73, 2), (73, 3), (73, 4), (1, 9), (1, 10), (1, 11), (1, 12), (1, 16)]) (t := 11) (i0 := 0) (fty := .int) (z := 5) (Z := 5) (mc := 1) (ms := 5) (by decide +kernel) (by decide +kernel) rfl (by decide) (fun _ => rfl) rfl na_int gw_105 (by decide) dX1_init_6 rfl ?_
  show ORuns g (d + 1) 1 5 iX1_init 8 [(0, .ref (og_b g + 82)), (1, .ref (og_b g + 24))] [.ref (og_b g + 83), .ref (og_b g + 82)] (PS 83 [(82, 0), (82, 1), (82, 2), (73, 2), (73, 3), (73, 4), (1, 9), (1, 10), (1, 11), (1, 12), (1, 16)]) _
  refine p_putR (n := 11) (v := 83) (m := 83) (a := 82) (L' := [(82, 0), (82, 2), (73, 2), (73, 3), (73, 4), (1, 9), (1, 10), (1, 11), (1, 12), (1, 16)]) 1 (by decide) (by decide +kernel) (by decide +kernel) cls_1 fi_1_1 (Or.inr ⟨rfl, rfl, rfl⟩) (fun _ => ⟨rfl, rfl⟩) (ps_obj (by decide +kernel)) gw_163 dX1_init_8 rfl ?_
  refine r_aload_n (n := 12) 0 dX1_init_11 rfl rfl ?_
  refine r_iconst (n := 13) (v := 5) dX1_init_12 (by decide) rfl ?_
  refine p_newarr (n := 15) (m := 83) (L' := [(82, 0), (82, 2), (73, 2), (73, 3), (73, 4), (1, 9), (1, 10), (1, 11), (1, 12), (1, 16)]) (t := 11) (i0 := 0) (fty := .int) (z := 5) (Z := 5) (mc := 0) (ms := 0) (by decide +kernel) (by decide +kernel) rfl (by decide) (fun _ => rfl) rfl na_int gw_105 (by decide) dX1_init_13 rfl ?_
  show ORuns g (d + 1) 0 0 iX1_init 15 [(0, .ref (og_b g + 82)), (1, .ref (og_b g + 24))] [.ref (og_b g + 84), .ref (og_b g + 82)] (PS 84 [(82, 0), (82, 2), (73, 2), (73, 3), (73, 4), (1, 9), (1, 10), (1, 11), (1, 12), (1, 16)]) _
  refine p_putR (n := 18) (v := 84) (m := 84) (a := 82) (L' := [(82, 0), (73, 2), (73, 3), (73, 4), (1, 9), (1, 10), (1, 11), (1, 12), (1, 16)]) 2 (by decide) (by decide +kernel) (by decide +kernel) cls_1 fi_1_2 (Or.inr ⟨rfl, rfl, rfl⟩) (fun _ => ⟨rfl, rfl⟩) (ps_obj (by decide +kernel)) gw_164 dX1_init_15 rfl ?_
  refine r_aload_n (n := 19) 0 dX1_init_18 rfl rfl ?_
  refine r_iconst (n := 20) (v := 0) dX1_init_19 (by decide) rfl ?_
  refine p_putI (n := 23) (m := 84) (a := 82) (L' := [(82, 0), (73, 2), (73, 3), (73, 4), (1, 9), (1, 10), (1, 11), (1, 12), (1, 16)]) 3 (by decide +kernel) (by decide +kernel) cls_1 fp_1_3 (ps_obj (by decide +kernel)) gw_165 dX1_init_20 rfl ?_
  refine r_aload_n (n := 24) 0 dX1_init_23 rfl rfl ?_
  refine r_iconst (n := 25) (v := 0) dX1_init_24 (by decide) rfl ?_
  refine p_putI (n := 28) (m := 84) (a := 82) (L' := [(82, 0), (73, 2), (73, 3), (73, 4), (1, 9), (1, 10), (1, 11), (1, 12), (1, 16)]) 4 (by decide +kernel) (by decide +kernel) cls_1 fp_1_4 (ps_obj (by decide +kernel)) gw_169 dX1_init_25 rfl ?_
  refine r_aload_n (n := 29) 0 dX1_init_28 rfl rfl ?_
  refine r_iconst (n := 30) (v := 0) dX1_init_29 (by decide) rfl ?_
  refine p_putZ (n := 33) (m := 84) (a := 82) (L' := [(82, 0), (73, 2), (73, 3), (73, 4), (1, 9), (1, 10), (1, 11), (1, 12), (1, 16)]) 5 (by decide) (by decide +kernel) (by decide +kernel) cls_1 fp_1_5 (ps_obj (by decide +kernel)) gw_171 dX1_init_30 rfl ?_
  refine r_aload_n (n := 34) 0 dX1_init_33 rfl rfl ?_
  refine r_iconst (n := 35) (v := 0) dX1_init_34 (by decide) rfl ?_
  refine p_putZ (n := 38) (m := 84) (a := 82) (L' := [(82, 0), (73, 2), (73, 3), (73, 4), (1, 9), (1, 10), (1, 11), (1, 12), (1, 16)]) 6 (by decide) (by decide +kernel) (by decide +kernel) cls_1 fp_1_6 (ps_obj (by decide +kernel)) gw_173 dX1_init_35 rfl ?_
  refine r_aload_n (n := 39) 0 dX1_init_38 rfl rfl ?_
  refine r_aload_n (n := 40) 1 dX1_init_39 rfl rfl ?_
  refine p_putR (n := 43) (v := 24) (m := 84) (a := 82) (L' := [(73, 2), (73, 3), (73, 4), (1, 9), (1, 10), (1, 11), (1, 12), (1, 16)]) 0 (by decide) (by decide +kernel) (by decide +kernel) cls_1 fi_1_0 (Or.inr ⟨rfl, rfl, rfl⟩) (fun _ => ⟨rfl, rfl⟩) (ps_obj (by decide +kernel)) gw_162 dX1_init_40 rfl ?_
  exact r_vret (st := []) dX1_init_43 rfl rfl
set_option maxRecDepth 20000 in
theorem k_85 {g : OG} {d : Nat} : OCall g (d + 1) 2 10 iX1_init [.ref (og_b g + 85), .ref (og_b g + 24)] (PS 85 [(85, 0), (85, 1), (85, 2), (73, 3), (73, 4), (1, 9), (1, 10), (1, 11), (1, 12), (1, 16)]) (QV (fun h' => h' = PS 87 [(73, 3), (73, 4), (1, 9), (1, 10), (1, 11), (1, 12), (1, 16)])) := by
  refine ocall_of (by decide) (Nat.le_of_ble_eq_true rfl) ?_
  show ORuns g (d + 1) 2 10 iX1_init 0 [(0, .ref (og_b g + 85)), (1, .ref (og_b g + 24))] [] (PS 85 [(85, 0), (85, 1), (85, 2), (73, 3), (73, 4), (1, 9), (1, 10), (1, 11), (1, 12), (1, 16)]) _
  refine r_aload_n (n := 1) 0 dX1_init_0 rfl rfl ?_
  refine r_objInit (n := 4) gw_161 ⟨gw_85, gw_86⟩ (Nat.le_of_ble_eq_true rfl) dX1_init_1 rfl ?_
  refine r_aload_n (n := 5) 0 dX1_init_4 rfl rfl ?_
  refine r_iconst (n := 6) (v := 5) dX1_init_5 (by decide) rfl ?_
  refine p_newarr (n := 8) (m := 85) (L' := [(85, 0), (85, 1), (85, 2), (73, 3), (73, 4), (1, 9), (1, 10), (1, 11), (1, 12), (1, 16)]) (t := 11) (i0 := 0) (fty := .int) (z := 5) (Z := 5) (mc := 1) (ms := 5) (by decide +kernel) (by decide +kernel) rfl (by decide) (fun _ => rfl) rfl na_int gw_105 (by decide) dX1_init_6 rfl ?_
  show ORuns g (d + 1) 1 5 iX1_init 8 [(0, .ref (og_b g + 85)), (1, .ref (og_b g + 24))] [.ref (og_b g + 86), .ref (og_b g + 85)] (PS 86 [(85, 0), (85, 1), (85, 2), (73, 3), (73, 4), (1, 9), (1, 10), (1, 11), (1, 12), (1, 16)]) _
  refine p_putR (n := 11) (v := 86) (m := 86) (a := 85) (L' := [(85, 0), (85, 2), (73, 3), (73, 4), (1, 9), (1, 10), (1, 11), (1, 12), (1, 16)]) 1 (by decide) (by decide +kernel) (by decide +kernel) cls_1 fi_1_1 (Or.inr ⟨rfl, rfl, rfl⟩) (fun _ => ⟨rfl, rfl⟩) (ps_obj (by decide +kernel)) gw_163 dX1_init_8 rfl ?_
  refine r_aload_n (n := 12) 0 dX1_init_11 rfl rfl ?_
  refine r_iconst (n := 13) (v := 5) dX1_init_12 (by decide) rfl ?_
  refine p_newarr (n := 15) (m := 86) (L' := [(85, 0), (85, 2), (73, 3), (73, 4), (1, 9), (1, 10), (1, 11), (1, 12), (1, 16)]) (t := 11) (i0 := 0) (fty := .int) (z := 5) (Z := 5) (mc := 0) (ms := 0) (by decide +kernel) (by decide +kernel) rfl (by decide) (fun _ => rfl) rfl na_int gw_105 (by decide) dX1_init_13 rfl ?_
  show ORuns g (d + 1) 0 0 iX1_init 15 [(0, .ref (og_b g + 85)), (1, .ref (og_b g + 24))] [.ref (og_b g + 87), .ref (og_b g + 85)] (PS 87 [(85, 0), (85, 2), (73, 3), (73, 4), (1, 9), (1, 10), (1, 11), (1, 12), (1, 16)]) _
  refine p_putR (n := 18) (v := 87) (m := 87) (a := 85) (L' := [(85, 0), (73, 3), (73, 4), (1, 9), (1, 10), (1, 11), (1, 12), (1, 16)]) 2 (by decide) (by decide +kernel) (by decide +kernel) cls_1 fi_1_2 (Or.inr ⟨rfl, rfl, rfl⟩) (fun _ => ⟨rfl, rfl⟩) (ps_obj (by decide +kernel)) gw_164 dX1_init_15 rfl ?_
  refine r_aload_n (n := 19) 0 dX1_init_18 rfl rfl ?_
  refine r_iconst (n := 20) (v := 0) dX1_init_19 (by decide) rfl ?_
  refine p_putI (n := 23) (m := 87) (a := 85) (L' := [(85, 0), (73, 3), (73, 4), (1, 9), (1, 10), (1, 11), (1, 12), (1, 16)]) 3 (by decide +kernel) (by decide +kernel) cls_1 fp_1_3 (ps_obj (by decide +kernel)) gw_165 dX1_init_20 rfl ?_
  refine r_aload_n (n := 24) 0 dX1_init_23 rfl rfl ?_
  refine r_iconst (n := 25) (v := 0) dX1_init_24 (by decide) rfl ?_
  refine p_putI (n := 28) (m := 87) (a := 85) (L' := [(85, 0), (73, 3), (73, 4), (1, 9), (1, 10), (1, 11), (1, 12), (1, 16)]) 4 (by decide +kernel) (by decide +kernel) cls_1 fp_1_4 (ps_obj (by decide +kernel)) gw_169 dX1_init_25 rfl ?_
  refine r_aload_n (n := 29) 0 dX1_init_28 rfl rfl ?_
  refine r_iconst (n := 30) (v := 0) dX1_init_29 (by decide) rfl ?_
  refine p_putZ (n := 33) (m := 87) (a := 85) (L' := [(85, 0), (73, 3), (73, 4), (1, 9), (1, 10), (1, 11), (1, 12), (1, 16)]) 5 (by decide) (by decide +kernel) (by decide +kernel) cls_1 fp_1_5 (ps_obj (by decide +kernel)) gw_171 dX1_init_30 rfl ?_
  refine r_aload_n (n := 34) 0 dX1_init_33 rfl rfl ?_
  refine r_iconst (n := 35) (v := 0) dX1_init_34 (by decide) rfl ?_
  refine p_putZ (n := 38) (m := 87) (a := 85) (L' := [(85, 0), (73, 3), (73, 4), (1, 9), (1, 10), (1, 11), (1, 12), (1, 16)]) 6 (by decide) (by decide +kernel) (by decide +kernel) cls_1 fp_1_6 (ps_obj (by decide +kernel)) gw_173 dX1_init_35 rfl ?_
  refine r_aload_n (n := 39) 0 dX1_init_38 rfl rfl ?_
  refine r_aload_n (n := 40) 1 dX1_init_39 rfl rfl ?_
  refine p_putR (n := 43) (v := 24) (m := 87) (a := 85) (L' := [(73, 3), (73, 4), (1, 9), (1, 10), (1, 11), (1, 12), (1, 16)]) 0 (by decide) (by decide +kernel) (by decide +kernel) cls_1 fi_1_0 (Or.inr ⟨rfl, rfl, rfl⟩) (fun _ => ⟨rfl, rfl⟩) (ps_obj (by decide +kernel)) gw_162 dX1_init_40 rfl ?_
  exact r_vret (st := []) dX1_init_43 rfl rfl
set_option maxRecDepth 20000 in
theorem k_88 {g : OG} {d : Nat} : OCall g (d + 1) 2 10 iX1_init [.ref (og_b g + 88), .ref (og_b g + 24)] (PS 88 [(88, 0), (88, 1), (88, 2), (73, 4), (1, 9), (1, 10), (1, 11), (1, 12), (1, 16)]) (QV (fun h' => h' = PS 90 [(73, 4), (1, 9), (1, 10), (1, 11), (1, 12), (1, 16)])) := by
  refine ocall_of (by decide) (Nat.le_of_ble_eq_true rfl) ?_
  show ORuns g (d + 1) 2 10 iX1_init 0 [(0, .ref (og_b g + 88)), (1, .ref (og_b g + 24))] [] (PS 88 [(88, 0), (88, 1), (88, 2), (73, 4), (1, 9), (1, 10), (1, 11), (1, 12), (1, 16)]) _
  refine r_aload_n (n := 1) 0 dX1_init_0 rfl rfl ?_
  refine r_objInit (n := 4) gw_161 ⟨gw_85, gw_86⟩ (Nat.le_of_ble_eq_true rfl) dX1_init_1 rfl ?_
  refine r_aload_n (n := 5) 0 dX1_init_4 rfl rfl ?_
  refine r_iconst (n := 6) (v := 5) dX1_init_5 (by decide) rfl ?_
  refine p_newarr (n := 8) (m := 88) (L' := [(88, 0), (88, 1), (88, 2), (73, 4), (1, 9), (1, 10), (1, 11), (1, 12), (1, 16)]) (t := 11) (i0 := 0) (fty := .int) (z := 5) (Z := 5) (mc := 1) (ms := 5) (by decide +kernel) (by decide +kernel) rfl (by decide) (fun _ => rfl) rfl na_int gw_105 (by decide) dX1_init_6 rfl ?_
  show ORuns g (d + 1) 1 5 iX1_init 8 [(0, .ref (og_b g + 88)), (1, .ref (og_b g + 24))] [.ref (og_b g + 89), .ref (og_b g + 88)] (PS 89 [(88, 0), (88, 1), (88, 2), (73, 4), (1, 9), (1, 10), (1, 11), (1, 12), (1, 16)]) _
  refine p_putR (n := 11) (v := 89) (m := 89) (a := 88) (L' := [(88, 0), (88, 2), (73, 4), (1, 9), (1, 10), (1, 11), (1, 12), (1, 16)]) 1 (by decide) (by decide +kernel) (by decide +kernel) cls_1 fi_1_1 (Or.inr ⟨rfl, rfl, rfl⟩) (fun _ => ⟨rfl, rfl⟩) (ps_obj (by decide +kernel)) gw_163 dX1_init_8 rfl ?_
  refine r_aload_n (n := 12) 0 dX1_init_11 rfl rfl ?_
  refine r_iconst (n := 13) (v := 5) dX1_init_12 (by decide) rfl ?_
  refine p_newarr (n := 15) (m := 89) (L' := [(88, 0), (88, 2), (73, 4), (1, 9), (1, 10), (1, 11), (1, 12), (1, 16)]) (t := 11) (i0 := 0) (fty := .int) (z := 5) (Z := 5) (mc := 0) (ms := 0) (by decide +kernel) (by decide +kernel) rfl (by decide) (fun _ => rfl) rfl na_int gw_105 (by decide) dX1_init_13 rfl ?_
  show ORuns g (d + 1) 0 0 iX1_init 15 [(0, .ref (og_b g + 88)), (1, .ref (og_b g + 24))] [.ref (og_b g + 90), .ref (og_b g + 88)] (PS 90 [(88, 0), (88, 2), (73, 4), (1, 9), (1, 10), (1, 11), (1, 12), (1, 16)]) _
  refine p_putR (n := 18) (v := 90) (m := 90) (a := 88) (L' := [(88, 0), (73, 4), (1, 9), (1, 10), (1, 11), (1, 12), (1, 16)]) 2 (by decide) (by decide +kernel) (by decide +kernel) cls_1 fi_1_2 (Or.inr ⟨rfl, rfl, rfl⟩) (fun _ => ⟨rfl, rfl⟩) (ps_obj (by decide +kernel)) gw_164 dX1_init_15 rfl ?_
  refine r_aload_n (n := 19) 0 dX1_init_18 rfl rfl ?_
  refine r_iconst (n := 20) (v := 0) dX1_init_19 (by decide) rfl ?_
  refine p_putI (n := 23) (m := 90) (a := 88) (L' := [(88, 0), (73, 4), (1, 9), (1, 10), (1, 11), (1, 12), (1, 16)]) 3 (by decide +kernel) (by decide +kernel) cls_1 fp_1_3 (ps_obj (by decide +kernel)) gw_165 dX1_init_20 rfl ?_
  refine r_aload_n (n := 24) 0 dX1_init_23 rfl rfl ?_
  refine r_iconst (n := 25) (v := 0) dX1_init_24 (by decide) rfl ?_
  refine p_putI (n := 28) (m := 90) (a := 88) (L' := [(88, 0), (73, 4), (1, 9), (1, 10), (1, 11), (1, 12), (1, 16)]) 4 (by decide +kernel) (by decide +kernel) cls_1 fp_1_4 (ps_obj (by decide +kernel)) gw_169 dX1_init_25 rfl ?_
  refine r_aload_n (n := 29) 0 dX1_init_28 rfl rfl ?_
  refine r_iconst (n := 30) (v := 0) dX1_init_29 (by decide) rfl ?_
  refine p_putZ (n := 33) (m := 90) (a := 88) (L' := [(88, 0), (73, 4), (1, 9), (1, 10), (1, 11), (1, 12), (1, 16)]) 5 (by decide) (by decide +kernel) (by decide +kernel) cls_1 fp_1_5 (ps_obj (by decide +kernel)) gw_171 dX1_init_30 rfl ?_
  refine r_aload_n (n := 34) 0 dX1_init_33 rfl rfl ?_
  refine r_iconst (n := 35) (v := 0) dX1_init_34 (by decide) rfl ?_
  refine p_putZ (n := 38) (m := 90) (a := 88) (L' := [(88, 0), (73, 4), (1, 9), (1, 10), (1, 11), (1, 12), (1, 16)]) 6 (by decide) (by decide +kernel) (by decide +kernel) cls_1 fp_1_6 (ps_obj (by decide +kernel)) gw_173 dX1_init_35 rfl ?_
  refine r_aload_n (n := 39) 0 dX1_init_38 rfl rfl ?_
  refine r_aload_n (n := 40) 1 dX1_init_39 rfl rfl ?_
  refine p_putR (n := 43) (v := 24) (m := 90) (a := 88) (L' := [(73, 4), (1, 9), (1, 10), (1, 11), (1, 12), (1, 16)]) 0 (by decide) (by decide +kernel) (by decide +kernel) cls_1 fi_1_0 (Or.inr ⟨rfl, rfl, rfl⟩) (fun _ => ⟨rfl, rfl⟩) (ps_obj (by decide +kernel)) gw_162 dX1_init_40 rfl ?_
  exact r_vret (st := []) dX1_init_43 rfl rfl
set_option maxRecDepth 20000 in
theorem k_72 {g : OG} {d : Nat} : OCall g (d + 2) 18 98 iX5_init [.ref (og_b g + 72), .ref (og_b g + 24)] (PS 72 [(72, 0), (72, 1), (72, 2), (72, 6), (1, 9), (1, 10), (1, 11), (1, 12), (1, 16)]) (QV (fun h' => h' = PS 90 [(1, 9), (1, 10), (1, 11), (1, 12), (1, 16)])) := by
  refine ocall_of (by decide) (Nat.le_of_ble_eq_true rfl) ?_
  show ORuns g (d + 2) 18 98 iX5_init 0 [(0, .ref (og_b g + 72)), (1, .ref (og_b g + 24))] [] (PS 72 [(72, 0), (72, 1), (72, 2), (72, 6), (1, 9), (1, 10), (1, 11), (1, 12), (1, 16)]) _
  refine r_aload_n (n := 1) 0 dX5_init_0 rfl rfl ?_
  refine r_objInit (n := 4) gw_224 ⟨gw_85, gw_86⟩ (Nat.le_of_ble_eq_true rfl) dX5_init_1 rfl ?_
  refine r_aload_n (n := 5) 0 dX5_init_4 rfl rfl ?_
  refine r_iconst (n := 6) (v := 5) dX5_init_5 (by decide) rfl ?_
  refine p_anew (n := 9) (m := 72) (L' := [(73, 0), (73, 1), (73, 2), (73, 3), (73, 4), (72, 0), (72, 1), (72, 2), (72, 6), (1, 9), (1, 10), (1, 11), (1, 12), (1, 16)]) (t := 17) (i0 := 6) (z := 5) (Z := 5) (mc := 17) (ms := 93) (by decide +kernel) (by decide +kernel) (by decide) (fun _ => rfl) gw_225 (fun _ h => h.2.2.1.2.2.2) (by decide) dX5_init_6 rfl ?_
  show ORuns g (d + 2) 17 93 iX5_init 9 [(0, .ref (og_b g + 72)), (1, .ref (og_b g + 24))] [.ref (og_b g + 73), .ref (og_b g + 72)] (PS 73 [(73, 0), (73, 1), (73, 2), (73, 3), (73, 4), (72, 0), (72, 1), (72, 2), (72, 6), (1, 9), (1, 10), (1, 11), (1, 12), (1, 16)]) _
  refine p_putR (n := 12) (v := 73) (m := 73) (a := 72) (L' := [(73, 0), (73, 1), (73, 2), (73, 3), (73, 4), (72, 1), (72, 2), (72, 6), (1, 9), (1, 10), (1, 11), (1, 12), (1, 16)]) 0 (by decide) (by decide +kernel) (by decide +kernel) cls_4 fi_4_0 (Or.inr ⟨rfl, rfl, rfl⟩) (fun _ => ⟨rfl, rfl⟩) (ps_obj (by decide +kernel)) gw_228 dX5_init_9 rfl ?_
  refine r_aload_n (n := 13) 0 dX5_init_12 rfl rfl ?_
  refine r_iconst (n := 14) (v := 4) dX5_init_13 (by decide) rfl ?_
  refine p_newarr (n := 16) (m := 73) (L' := [(73, 0), (73, 1), (73, 2), (73, 3), (73, 4), (72, 1), (72, 2), (72, 6), (1, 9), (1, 10), (1, 11), (1, 12), (1, 16)]) (t := 11) (i0 := 0) (fty := .int) (z := 4) (Z := 4) (mc := 16) (ms := 89) (by decide +kernel) (by decide +kernel) rfl (by decide) (fun _ => rfl) rfl na_int gw_105 (by decide) dX5_init_14 rfl ?_
  show ORuns g (d + 2) 16 89 iX5_init 16 [(0, .ref (og_b g + 72)), (1, .ref (og_b g + 24))] [.ref (og_b g + 74), .ref (og_b g + 72)] (PS 74 [(73, 0), (73, 1), (73, 2), (73, 3), (73, 4), (72, 1), (72, 2), (72, 6), (1, 9), (1, 10), (1, 11), (1, 12), (1, 16)]) _
  refine p_putR (n := 19) (v := 74) (m := 74) (a := 72) (L' := [(73, 0), (73, 1), (73, 2), (73, 3), (73, 4), (72, 2), (72, 6), (1, 9), (1, 10), (1, 11), (1, 12), (1, 16)]) 1 (by decide) (by decide +kernel) (by decide +kernel) cls_4 fi_4_1 (Or.inr ⟨rfl, rfl, rfl⟩) (fun _ => ⟨rfl, rfl⟩) (ps_obj (by decide +kernel)) gw_229 dX5_init_16 rfl ?_
  refine r_aload_n (n := 20) 0 dX5_init_19 rfl rfl ?_
  refine r_iconst (n := 21) (v := 4) dX5_init_20 (by decide) rfl ?_
  refine p_newarr (n := 23) (m := 74) (L' := [(73, 0), (73, 1), (73, 2), (73, 3), (73, 4), (72, 2), (72, 6), (1, 9), (1, 10), (1, 11), (1, 12), (1, 16)]) (t := 11) (i0 := 0) (fty := .int) (z := 4) (Z := 4) (mc := 15) (ms := 85) (by decide +kernel) (by decide +kernel) rfl (by decide) (fun _ => rfl) rfl na_int gw_105 (by decide) dX5_init_21 rfl ?_
  show ORuns g (d + 2) 15 85 iX5_init 23 [(0, .ref (og_b g + 72)), (1, .ref (og_b g + 24))] [.ref (og_b g + 75), .ref (og_b g + 72)] (PS 75 [(73, 0), (73, 1), (73, 2), (73, 3), (73, 4), (72, 2), (72, 6), (1, 9), (1, 10), (1, 11), (1, 12), (1, 16)]) _
  refine p_putR (n := 26) (v := 75) (m := 75) (a := 72) (L' := [(73, 0), (73, 1), (73, 2), (73, 3), (73, 4), (72, 6), (1, 9), (1, 10), (1, 11), (1, 12), (1, 16)]) 2 (by decide) (by decide +kernel) (by decide +kernel) cls_4 fi_4_2 (Or.inr ⟨rfl, rfl, rfl⟩) (fun _ => ⟨rfl, rfl⟩) (ps_obj (by decide +kernel)) gw_230 dX5_init_23 rfl ?_
  refine r_aload_n (n := 27) 0 dX5_init_26 rfl rfl ?_
  refine r_iconst (n := 28) (v := 0) dX5_init_27 (by decide) rfl ?_
  refine p_putI (n := 31) (m := 75) (a := 72) (L' := [(73, 0), (73, 1), (73, 2), (73, 3), (73, 4), (72, 6), (1, 9), (1, 10), (1, 11), (1, 12), (1, 16)]) 3 (by decide +kernel) (by decide +kernel) cls_4 fp_4_3 (ps_obj (by decide +kernel)) gw_231 dX5_init_28 rfl ?_
  refine r_aload_n (n := 32) 0 dX5_init_31 rfl rfl ?_
  refine r_iconst (n := 33) (v := 0) dX5_init_32 (by decide) rfl ?_
  refine p_putI (n := 36) (m := 75) (a := 72) (L' := [(73, 0), (73, 1), (73, 2), (73, 3), (73, 4), (72, 6), (1, 9), (1, 10), (1, 11), (1, 12), (1, 16)]) 4 (by decide +kernel) (by decide +kernel) cls_4 fp_4_4 (ps_obj (by decide +kernel)) gw_232 dX5_init_33 rfl ?_
  refine r_aload_n (n := 37) 0 dX5_init_36 rfl rfl ?_
  refine r_iconst (n := 38) (v := 0) dX5_init_37 (by decide) rfl ?_
  refine p_putI (n := 41) (m := 75) (a := 72) (L' := [(73, 0), (73, 1), (73, 2), (73, 3), (73, 4), (72, 6), (1, 9), (1, 10), (1, 11), (1, 12), (1, 16)]) 5 (by decide +kernel) (by decide +kernel) cls_4 fp_4_5 (ps_obj (by decide +kernel)) gw_233 dX5_init_38 rfl ?_
  refine r_aload_n (n := 42) 0 dX5_init_41 rfl rfl ?_
  refine r_iconst (n := 43) (v := (-1)) dX5_init_42 (by decide) rfl ?_
  refine p_putI (n := 46) (m := 75) (a := 72) (L' := [(73, 0), (73, 1), (73, 2), (73, 3), (73, 4), (1, 9), (1, 10), (1, 11), (1, 12), (1, 16)]) 6 (by decide +kernel) (by decide +kernel) cls_4 fp_4_6 (ps_obj (by decide +kernel)) gw_235 dX5_init_43 rfl ?_
  refine r_aload_n (n := 47) 0 dX5_init_46 rfl rfl ?_
  refine r_iconst (n := 48) (v := 0) dX5_init_47 (by decide) rfl ?_
  refine p_putI (n := 51) (m := 75) (a := 72) (L' := [(73, 0), (73, 1), (73, 2), (73, 3), (73, 4), (1, 9), (1, 10), (1, 11), (1, 12), (1, 16)]) 7 (by decide +kernel) (by decide +kernel) cls_4 fp_4_7 (ps_obj (by decide +kernel)) gw_237 dX5_init_48 rfl ?_
  refine r_aload_n (n := 52) 0 dX5_init_51 rfl rfl ?_
  refine r_iconst (n := 53) (v := 0) dX5_init_52 (by decide) rfl ?_
  refine p_putI (n := 56) (m := 75) (a := 72) (L' := [(73, 0), (73, 1), (73, 2), (73, 3), (73, 4), (1, 9), (1, 10), (1, 11), (1, 12), (1, 16)]) 8 (by decide +kernel) (by decide +kernel) cls_4 fp_4_8 (ps_obj (by decide +kernel)) gw_239 dX5_init_53 rfl ?_
  refine r_aload_n (n := 57) 0 dX5_init_56 rfl rfl ?_
  refine r_iconst (n := 58) (v := 0) dX5_init_57 (by decide) rfl ?_
  refine p_putI (n := 61) (m := 75) (a := 72) (L' := [(73, 0), (73, 1), (73, 2), (73, 3), (73, 4), (1, 9), (1, 10), (1, 11), (1, 12), (1, 16)]) 9 (by decide +kernel) (by decide +kernel) cls_4 fp_4_9 (ps_obj (by decide +kernel)) gw_241 dX5_init_58 rfl ?_
  refine r_iconst (n := 62) (v := 0) dX5_init_61 (by decide) rfl ?_
  refine r_istore_n (n := 63) (lv' := [(2, .int 0), (0, .ref (og_b g + 72)), (1, .ref (og_b g + 24))]) dX5_init_62 rfl (by decide) rfl rfl ?_
  refine r_iload_n (n := 64) 0 dX5_init_63 rfl rfl ?_
  refine r_iconst (n := 65) (v := 4) dX5_init_64 (by decide) rfl ?_
  refine r_icmp_gt (n := 68) (tgt := 88) dX5_init_65 (by decide) rfl (fun q => absurd q (by decide)) (fun _ => ?_)
  refine r_aload_n (n := 69) 1 dX5_init_68 rfl rfl ?_
  refine p_getR (n := 72) (x := 73) (m := 75) (a := 72) 0 (by decide +kernel) (by decide) cls_4 fi_4_0 (ps_obj (by decide +kernel)) gw_228 dX5_init_69 rfl ?_
  refine r_iload_n (n := 73) 0 dX5_init_72 rfl rfl ?_
  refine p_new (n := 76) (m := 75) (L' := [(76, 0), (76, 1), (76, 2), (73, 0), (73, 1), (73, 2), (73, 3), (73, 4), (1, 9), (1, 10), (1, 11), (1, 12), (1, 16)]) (mc := 14) (ms := 78) (by decide +kernel) (by decide +kernel) cls_1 ⟨gw_225, gw_157, gw_69⟩ dv_1 dX5_init_73 rfl ?_
  show ORuns g (d + 2) 14 78 iX5_init 76 [(2, .int 0), (0, .ref (og_b g + 72)), (1, .ref (og_b g + 24))] [.ref (og_b g + 76), .int 0, .ref (og_b g + 73)] (PS 76 [(76, 0), (76, 1), (76, 2), (73, 0), (73, 1), (73, 2), (73, 3), (73, 4), (1, 9), (1, 10), (1, 11), (1, 12), (1, 16)]) _
  refine r_dup (n := 77) dX5_init_76 rfl rfl ?_
  refine r_aload_n (n := 78) 2 dX5_init_77 rfl rfl ?_
  refine r_callI (n := 81) (a := 76) (mc' := 2) (ms' := 10) (mc := 12) (ms := 68) (As := [.ref (og_b g + 24)]) (rest := [.ref (og_b g + 76), .int 0, .ref (og_b g + 73)]) cm_X1_init gw_227 rfl (Nat.le_of_ble_eq_true rfl) dX5_init_78 rfl (ocall_mono (fun v h' e => ?_) (k_76))
  obtain ⟨rfl, rfl⟩ := e
  show ORuns g (d + 2) 12 68 iX5_init 81 [(2, .int 0), (0, .ref (og_b g + 72)), (1, .ref (og_b g + 24))] [.ref (og_b g + 76), .int 0, .ref (og_b g + 73)] (PS 78 [(73, 0), (73, 1), (73, 2), (73, 3), (73, 4), (1, 9), (1, 10), (1, 11), (1, 12), (1, 16)]) _
  refine p_aast (n := 82) (m := 78) (a := 73) (v := 76) (j := 0) (L' := [(73, 1), (73, 2), (73, 3), (73, 4), (1, 9), (1, 10), (1, 11), (1, 12), (1, 16)]) (t := 17) (i0 := 6) (z := 5) (by decide +kernel) (by decide +kernel) (by decide) (ps_arr (by decide +kernel)) (by decide) (fun _ => rfl) (ps_obj (by decide +kernel)) ⟨cq_1.1, cq_1.2.1⟩ (vp_in_nI (n := 0) (N := 5) (by decide) (by decide)) dX5_init_81 rfl ?_
  refine r_iinc (n := 85) (v := 1) (lv' := [(2, .int 1), (0, .ref (og_b g + 72)), (1, .ref (og_b g + 24))]) 0 dX5_init_82 rfl (by decide) (by decide) rfl rfl ?_
  refine r_goto (n := 63) dX5_init_85 (by decide) ?_
  refine r_iload_n (n := 64) 0 dX5_init_63 rfl rfl ?_
  refine r_iconst (n := 65) (v := 4) dX5_init_64 (by decide) rfl ?_
  refine r_icmp_gt (n := 68) (tgt := 88) dX5_init_65 (by decide) rfl (fun q => absurd q (by decide)) (fun _ => ?_)
  refine r_aload_n (n := 69) 1 dX5_init_68 rfl rfl ?_
  refine p_getR (n := 72) (x := 73) (m := 78) (a := 72) 0 (by decide +kernel) (by decide) cls_4 fi_4_0 (ps_obj (by decide +kernel)) gw_228 dX5_init_69 rfl ?_
  refine r_iload_n (n := 73) 0 dX5_init_72 rfl rfl ?_
  refine p_new (n := 76) (m := 78) (L' := [(79, 0), (79, 1), (79, 2), (73, 1), (73, 2), (73, 3), (73, 4), (1, 9), (1, 10), (1, 11), (1, 12), (1, 16)]) (mc := 11) (ms := 61) (by decide +kernel) (by decide +kernel) cls_1 ⟨gw_225, gw_157, gw_69⟩ dv_1 dX5_init_73 rfl ?_
  show ORuns g (d + 2) 11 61 iX5_init 76 [(2, .int 1), (0, .ref (og_b g + 72)), (1, .ref (og_b g + 24))] [.ref (og_b g + 79), .int 1, .ref (og_b g + 73)] (PS 79 [(79, 0), (79, 1), (79, 2), (73, 1), (73, 2), (73, 3), (73, 4), (1, 9), (1, 10), (1, 11), (1, 12), (1, 16)]) _
  refine r_dup (n := 77) dX5_init_76 rfl rfl ?_
  refine r_aload_n (n := 78) 2 dX5_init_77 rfl rfl ?_
  refine r_callI (n := 81) (a := 79) (mc' := 2) (ms' := 10) (mc := 9) (ms := 51) (As := [.ref (og_b g + 24)]) (rest := [.ref (og_b g + 79), .int 1, .ref (og_b g + 73)]) cm_X1_init gw_227 rfl (Nat.le_of_ble_eq_true rfl) dX5_init_78 rfl (ocall_mono (fun v h' e => ?_) (k_79))
  obtain ⟨rfl, rfl⟩ := e
  show ORuns g (d + 2) 9 51 iX5_init 81 [(2, .int 1), (0, .ref (og_b g + 72)), (1, .ref (og_b g + 24))] [.ref (og_b g + 79), .int 1, .ref (og_b g + 73)] (PS 81 [(73, 1), (73, 2), (73, 3), (73, 4), (1, 9), (1, 10), (1, 11), (1, 12), (1, 16)]) _
  refine p_aast (n := 82) (m := 81) (a := 73) (v := 79) (j := 1) (L' := [(73, 2), (73, 3), (73, 4), (1, 9), (1, 10), (1, 11), (1, 12), (1, 16)]) (t := 17) (i0 := 6) (z := 5) (by decide +kernel) (by decide +kernel) (by decide) (ps_arr (by decide +kernel)) (by decide) (fun _ => rfl) (ps_obj (by decide +kernel)) ⟨cq_1.1, cq_1.2.1⟩ (vp_in_nI (n := 1) (N := 5) (by decide) (by decide)) dX5_init_81 rfl ?_
  refine r_iinc (n := 85) (v := 2) (lv' := [(2, .int 2), (0, .ref (og_b g + 72)), (1, .ref (og_b g + 24))]) 0 dX5_init_82 rfl (by decide) (by decide) rfl rfl ?_
  refine r_goto (n := 63) dX5_init_85 (by decide) ?_
  refine r_iload_n (n := 64) 0 dX5_init_63 rfl rfl ?_
  refine r_iconst (n := 65) (v := 4) dX5_init_64 (by decide) rfl ?_
  refine r_icmp_gt (n := 68) (tgt := 88) dX5_init_65 (by decide) rfl (fun q => absurd q (by decide)) (fun _ => ?_)
  refine r_aload_n (n := 69) 1 dX5_init_68 rfl rfl ?_
  refine p_getR (n := 72) (x := 73) (m := 81) (a := 72) 0 (by decide +kernel) (by decide) cls_4 fi_4_0 (ps_obj (by decide +kernel)) gw_228 dX5_init_69 rfl ?_
  refine r_iload_n (n := 73) 0 dX5_init_72 rfl rfl ?_
  refine p_new (n := 76) (m := 81) (L' := [(82, 0), (82, 1), (82, 2), (73, 2), (73, 3), (73, 4), (1, 9), (1, 10), (1, 11), (1, 12), (1, 16)]) (mc := 8) (ms := 44) (by decide +kernel) (by decide +kernel) cls_1 ⟨gw_225, gw_157, gw_69⟩ dv_1 dX5_init_73 rfl ?_
  show ORuns g (d + 2) 8 44 iX5_init 76 [(2, .int 2), (0, .ref (og_b g + 72)), (1, .ref (og_b g + 24))] [.ref (og_b g + 82), .int 2, .ref (og_b g + 73)] (PS 82 [(82, 0), (82, 1), (82, 2), (73, 2), (73, 3), (73, 4), (1, 9), (1, 10), (1, 11), (1, 12), (1, 16)]) _
  refine r_dup (n := 77) dX5_init_76 rfl rfl ?_
  refine r_aload_n (n := 78) 2 dX5_init_77 rfl rfl ?_
  refine r_callI (n := 81) (a := 82) (mc' := 2) (ms' := 10) (mc := 6) (ms := 34) (As := [.ref (og_b g + 24)]) (rest := [.ref (og_b g + 82), .int 2, .ref (og_b g + 73)]) cm_X1_init gw_227 rfl (Nat.le_of_ble_eq_true rfl) dX5_init_78 rfl (ocall_mono (fun v h' e => ?_) (k_82))
  obtain ⟨rfl, rfl⟩ := e
  show ORuns g (d + 2) 6 34 iX5_init 81 [(2, .int 2), (0, .ref (og_b g + 72)), (1, .ref (og_b g + 24))] [.ref (og_b g + 82), .int 2, .ref (og_b g + 73)] (PS 84 [(73, 2), (73, 3), (73, 4), (1, 9), (1, 10), (1, 11), (1, 12), (1, 16)]) _
  refine p_aast (n := 82) (m := 84) (a := 73) (v := 82) (j := 2) (L' := [(73, 3), (73, 4), (1, 9), (1, 10), (1, 11), (1, 12), (1, 16)]) (t := 17) (i0 := 6) (z := 5) (by decide +kernel) (by decide +kernel) (by decide) (ps_arr (by decide +kernel)) (by decide) (fun _ => rfl) (ps_obj (by decide +kernel)) ⟨cq_1.1, cq_1.2.1⟩ (vp_in_nI (n := 2) (N := 5) (by decide) (by decide)) dX5_init_81 rfl ?_
  refine r_iinc (n := 85) (v := 3) (lv' := [(2, .int 3), (0, .ref (og_b g + 72)), (1, .ref (og_b g + 24))]) 0 dX5_init_82 rfl (by decide) (by decide) rfl rfl ?_
  refine r_goto (n := 63) dX5_init_85 (by decide) ?_
  refine r_iload_n (n := 64) 0 dX5_init_63 rfl rfl ?_
  refine r_iconst (n := 65) (v := 4) dX5_init_64 (by decide) rfl ?_
  refine r_icmp_gt (n := 68) (tgt := 88) dX5_init_65 (by decide) rfl (fun q => absurd q (by decide)) (fun _ => ?_)
  refine r_aload_n (n := 69) 1 dX5_init_68 rfl rfl ?_
  refine p_getR (n := 72) (x := 73) (m := 84) (a := 72) 0 (by decide +kernel) (by decide) cls_4 fi_4_0 (ps_obj (by decide +kernel)) gw_228 dX5_init_69 rfl ?_
  refine r_iload_n (n := 73) 0 dX5_init_72 rfl rfl ?_
  refine p_new (n := 76) (m := 84) (L' := [(85, 0), (85, 1), (85, 2), (73, 3), (73, 4), (1, 9), (1, 10), (1, 11), (1, 12), (1, 16)]) (mc := 5) (ms := 27) (by decide +kernel) (by decide +kernel) cls_1 ⟨gw_225, gw_157, gw_69⟩ dv_1 dX5_init_73 rfl ?_
  show ORuns g (d + 2) 5 27 iX5_init 76 [(2, .int 3), (0, .ref (og_b g + 72)), (1, .ref (og_b g + 24))] [.ref (og_b g + 85), .int 3, .ref (og_b g + 73)] (PS 85 [(85, 0), (85, 1), (85, 2), (73, 3), (73, 4), (1, 9), (1, 10), (1, 11), (1, 12), (1, 16)]) _
  refine r_dup (n := 77) dX5_init_76 rfl rfl ?_
  refine r_aload_n (n := 78) 2 dX5_init_77 rfl rfl ?_
  refine r_callI (n := 81) (a := 85) (mc' := 2) (ms' := 10) (mc := 3) (ms := 17) (As := [.ref (og_b g + 24)]) (rest := [.ref (og_b g + 85), .int 3, .ref (og_b g + 73)]) cm_X1_init gw_227 rfl (Nat.le_of_ble_eq_true rfl) dX5_init_78 rfl (ocall_mono (fun v h' e => ?_) (k_85))
  obtain ⟨rfl, rfl⟩ := e
  show ORuns g (d + 2) 3 17 iX5_init 81 [(2, .int 3), (0, .ref (og_b g + 72)), (1, .ref (og_b g + 24))] [.ref (og_b g + 85), .int 3, .ref (og_b g + 73)] (PS 87 [(73, 3), (73, 4), (1, 9), (1, 10), (1, 11), (1, 12), (1, 16)]) _
  refine p_aast (n := 82) (m := 87) (a := 73) (v := 85) (j := 3) (L' := [(73, 4), (1, 9), (1, 10), (1, 11), (1, 12), (1, 16)]) (t := 17) (i0 := 6) (z := 5) (by decide +kernel) (by decide +kernel) (by decide) (ps_arr (by decide +kernel)) (by decide) (fun _ => rfl) (ps_obj (by decide +kernel)) ⟨cq_1.1, cq_1.2.1⟩ (vp_in_nI (n := 3) (N := 5) (by decide) (by decide)) dX5_init_81 rfl ?_
  refine r_iinc (n := 85) (v := 4) (lv' := [(2, .int 4), (0, .ref (og_b g + 72)), (1, .ref (og_b g + 24))]) 0 dX5_init_82 rfl (by decide) (by decide) rfl rfl ?_
  refine r_goto (n := 63) dX5_init_85 (by decide) ?_
  refine r_iload_n (n := 64) 0 dX5_init_63 rfl rfl ?_
  refine r_iconst (n := 65) (v := 4) dX5_init_64 (by decide) rfl ?_
  refine r_icmp_gt (n := 68) (tgt := 88) dX5_init_65 (by decide) rfl (fun q => absurd q (by decide)) (fun _ => ?_)
  refine r_aload_n (n := 69) 1 dX5_init_68 rfl rfl ?_
  refine p_getR (n := 72) (x := 73) (m := 87) (a := 72) 0 (by decide +kernel) (by decide) cls_4 fi_4_0 (ps_obj (by decide +kernel)) gw_228 dX5_init_69 rfl ?_
  refine r_iload_n (n := 73) 0 dX5_init_72 rfl rfl ?_
  refine p_new (n := 76) (m := 87) (L' := [(88, 0), (88, 1), (88, 2), (73, 4), (1, 9), (1, 10), (1, 11), (1, 12), (1, 16)]) (mc := 2) (ms := 10) (by decide +kernel) (by decide +kernel) cls_1 ⟨gw_225, gw_157, gw_69⟩ dv_1 dX5_init_73 rfl ?_
  show ORuns g (d + 2) 2 10 iX5_init 76 [(2, .int 4), (0, .ref (og_b g + 72)), (1, .ref (og_b g + 24))] [.ref (og_b g + 88), .int 4, .ref (og_b g + 73)] (PS 88 [(88, 0), (88, 1), (88, 2), (73, 4), (1, 9), (1, 10), (1, 11), (1, 12), (1, 16)]) _
  refine r_dup (n := 77) dX5_init_76 rfl rfl ?_
  refine r_aload_n (n := 78) 2 dX5_init_77 rfl rfl ?_
  refine r_callI (n := 81) (a := 88) (mc' := 2) (ms' := 10) (mc := 0) (ms := 0) (As := [.ref (og_b g + 24)]) (rest := [.ref (og_b g + 88), .int 4, .ref (og_b g + 73)]) cm_X1_init gw_227 rfl (Nat.le_of_ble_eq_true rfl) dX5_init_78 rfl (ocall_mono (fun v h' e => ?_) (k_88))
  obtain ⟨rfl, rfl⟩ := e
  show ORuns g (d + 2) 0 0 iX5_init 81 [(2, .int 4), (0, .ref (og_b g + 72)), (1, .ref (og_b g + 24))] [.ref (og_b g + 88), .int 4, .ref (og_b g + 73)] (PS 90 [(73, 4), (1, 9), (1, 10), (1, 11), (1, 12), (1, 16)]) _
  refine p_aast (n := 82) (m := 90) (a := 73) (v := 88) (j := 4) (L' := [(1, 9), (1, 10), (1, 11), (1, 12), (1, 16)]) (t := 17) (i0 := 6) (z := 5) (by decide +kernel) (by decide +kernel) (by decide) (ps_arr (by decide +kernel)) (by decide) (fun _ => rfl) (ps_obj (by decide +kernel)) ⟨cq_1.1, cq_1.2.1⟩ (vp_in_nI (n := 4) (N := 5) (by decide) (by decide)) dX5_init_81 rfl ?_
  refine r_iinc (n := 85) (v := 5) (lv' := [(2, .int 5), (0, .ref (og_b g + 72)), (1, .ref (og_b g + 24))]) 0 dX5_init_82 rfl (by decide) (by decide) rfl rfl ?_
  refine r_goto (n := 63) dX5_init_85 (by decide) ?_
  refine r_iload_n (n := 64) 0 dX5_init_63 rfl rfl ?_
  refine r_iconst (n := 65) (v := 4) dX5_init_64 (by decide) rfl ?_
  refine r_icmp_gt (n := 68) (tgt := 88) dX5_init_65 (by decide) rfl (fun _ => ?_) (fun q => absurd (by decide) q)
  exact r_vret (st := []) dX5_init_88 rfl rfl
set_option maxRecDepth 20000 in
theorem k_93 {g : OG} {d : Nat} : OCall g (d + 1) 2 10 iX1_init [.ref (og_b g + 93), .ref (og_b g + 24)] (PS 93 [(93, 0), (93, 1), (93, 2), (92, 0), (92, 1), (92, 2), (92, 3), (92, 4), (92, 5), (1, 10), (1, 11), (1, 12), (1, 16)]) (QV (fun h' => h' = PS 95 [(92, 0), (92, 1), (92, 2), (92, 3), (92, 4), (92, 5), (1, 10), (1, 11), (1, 12), (1, 16)])) := by
  refine ocall_of (by decide) (Nat.le_of_ble_eq_true rfl) ?_
  show ORuns g (d + 1) 2 10 iX1_init 0 [(0, .ref (og_b g + 93)), (1, .ref (og_b g + 24))] [] (PS 93 [(93, 0), (93, 1), (93, 2), (92, 0), (92, 1), (92, 2), (92, 3), (92, 4), (92, 5), (1, 10), (1, 11), (1, 12), (1, 16)]) _
  refine r_aload_n (n := 1) 0 dX1_init_0 rfl rfl ?_
  refine r_objInit (n := 4) gw_161 ⟨gw_85, gw_86⟩ (Nat.le_of_ble_eq_true rfl) dX1_init_1 rfl ?_
  refine r_aload_n (n := 5) 0 dX1_init_4 rfl rfl ?_
  refine r_iconst (n := 6) (v := 5) dX1_init_5 (by decide) rfl ?_
  refine p_newarr (n := 8) (m := 93) (L' := [(93, 0), (93, 1), (93, 2), (92, 0), (92, 1), (92, 2), (92, 3), (92, 4), (92, 5), (1, 10), (1, 11), (1, 12), (1, 16)]) (t := 11) (i0 := 0) (fty := .int) (z := 5) (Z := 5) (mc := 1) (ms := 5) (by decide +kernel) (by decide +kernel) rfl (by decide) (fun _ => rfl) rfl na_int gw_105 (by decide) dX1_init_6 rfl ?_
  show ORuns g (d + 1) 1 5 iX1_init 8 [(0, .ref (og_b g + 93)), (1, .ref (og_b g + 24))] [.ref (og_b g + 94), .ref (og_b g + 93)] (PS 94 [(93, 0), (93, 1), (93, 2), (92, 0), (92, 1), (92, 2), (92, 3), (92, 4), (92, 5), (1, 10), (1, 11), (1, 12), (1, 16)]) _
  refine p_putR (n := 11) (v := 94) (m := 94) (a := 93) (L' := [(93, 0), (93, 2), (92, 0), (92, 1), (92, 2), (92, 3), (92, 4), (92, 5), (1, 10), (1, 11), (1, 12), (1, 16)]) 1 (by decide) (by decide +kernel) (by decide +kernel) cls_1 fi_1_1 (Or.inr ⟨rfl, rfl, rfl⟩) (fun _ => ⟨rfl, rfl⟩) (ps_obj (by decide +kernel)) gw_163 dX1_init_8 rfl ?_
  refine r_aload_n (n := 12) 0 dX1_init_11 rfl rfl ?_
  refine r_iconst (n := 13) (v := 5) dX1_init_12 (by decide) rfl ?_
  refine p_newarr (n := 15) (m := 94) (L' := [(93, 0), (93, 2), (92, 0), (92, 1), (92, 2), (92, 3), (92, 4), (92, 5), (1, 10), (1, 11), (1, 12), (1, 16)]) (t := 11) (i0 := 0) (fty := .int) (z := 5) (Z := 5) (mc := 0) (ms := 0) (by decide +kernel) (by decide +kernel) rfl (by decide) (fun _ => rfl) rfl na_int gw_105 (by decide) dX1_init_13 rfl ?_
  show ORuns g (d + 1) 0 0 iX1_init 15 [(0, .ref (og_b g + 93)), (1, .ref (og_b g + 24))] [.ref (og_b g + 95), .ref (og_b g + 93)] (PS 95 [(93, 0), (93, 2), (92, 0), (92, 1), (92, 2), (92, 3), (92, 4), (92, 5), (1, 10), (1, 11), (1, 12), (1, 16)]) _
  refine p_putR (n := 18) (v := 95) (m := 95) (a := 93) (L' := [(93, 0), (92, 0), (92, 1), (92, 2), (92, 3), (92, 4), (92, 5), (1, 10), (1, 11), (1, 12), (1, 16)]) 2 (by decide) (by decide +kernel) (by decide +kernel) cls_1 fi_1_2 (Or.inr ⟨rfl, rfl, rfl⟩) (fun _ => ⟨rfl, rfl⟩) (ps_obj (by decide +kernel)) gw_164 dX1_init_15 rfl ?_
  refine r_aload_n (n := 19) 0 dX1_init_18 rfl rfl ?_
  refine r_iconst (n := 20) (v := 0) dX1_init_19 (by decide) rfl ?_
  refine p_putI (n := 23) (m := 95) (a := 93) (L' := [(93, 0), (92, 0), (92, 1), (92, 2), (92, 3), (92, 4), (92, 5), (1, 10), (1, 11), (1, 12), (1, 16)]) 3 (by decide +kernel) (by decide +kernel) cls_1 fp_1_3 (ps_obj (by decide +kernel)) gw_165 dX1_init_20 rfl ?_
  refine r_aload_n (n := 24) 0 dX1_init_23 rfl rfl ?_
  refine r_iconst (n := 25) (v := 0) dX1_init_24 (by decide) rfl ?_
  refine p_putI (n := 28) (m := 95) (a := 93) (L' := [(93, 0), (92, 0), (92, 1), (92, 2), (92, 3), (92, 4), (92, 5), (1, 10), (1, 11), (1, 12), (1, 16)]) 4 (by decide +kernel) (by decide +kernel) cls_1 fp_1_4 (ps_obj (by decide +kernel)) gw_169 dX1_init_25 rfl ?_
  refine r_aload_n (n := 29) 0 dX1_init_28 rfl rfl ?_
  refine r_iconst (n := 30) (v := 0) dX1_init_29 (by decide) rfl ?_
  refine p_putZ (n := 33) (m := 95) (a := 93) (L' := [(93, 0), (92, 0), (92, 1), (92, 2), (92, 3), (92, 4), (92, 5), (1, 10), (1, 11), (1, 12), (1, 16)]) 5 (by decide) (by decide +kernel) (by decide +kernel) cls_1 fp_1_5 (ps_obj (by decide +kernel)) gw_171 dX1_init_30 rfl ?_
  refine r_aload_n (n := 34) 0 dX1_init_33 rfl rfl ?_
  refine r_iconst (n := 35) (v := 0) dX1_init_34 (by decide) rfl ?_
  refine p_putZ (n := 38) (m := 95) (a := 93) (L' := [(93, 0), (92, 0), (92, 1), (92, 2), (92, 3), (92, 4), (92, 5), (1, 10), (1, 11), (1, 12), (1, 16)]) 6 (by decide) (by decide +kernel) (by decide +kernel) cls_1 fp_1_6 (ps_obj (by decide +kernel)) gw_173 dX1_init_35 rfl ?_
  refine r_aload_n (n := 39) 0 dX1_init_38 rfl rfl ?_
  refine r_aload_n (n := 40) 1 dX1_init_39 rfl rfl ?_
  refine p_putR (n := 43) (v := 24) (m := 95) (a := 93) (L' := [(92, 0), (92, 1), (92, 2), (92, 3), (92, 4), (92, 5), (1, 10), (1, 11), (1, 12), (1, 16)]) 0 (by decide) (by decide +kernel) (by decide +kernel) cls_1 fi_1_0 (Or.inr ⟨rfl, rfl, rfl⟩) (fun _ => ⟨rfl, rfl⟩) (ps_obj (by decide +kernel)) gw_162 dX1_init_40 rfl ?_
  exact r_vret (st := []) dX1_init_43 rfl rfl
set_option maxRecDepth 20000 in
theorem k_96 {g : OG} {d : Nat} : OCall g (d + 1) 2 10 iX1_init [.ref (og_b g + 96), .ref (og_b g + 24)] (PS 96 [(96, 0), (96, 1), (96, 2), (92, 1), (92, 2), (92, 3), (92, 4), (92, 5), (1, 10), (1, 11), (1, 12), (1, 16)]) (QV (fun h' => h' = PS 98 [(92, 1), (92, 2), (92, 3), (92, 4), (92, 5), (1, 10), (1, 11), (1, 12), (1, 16)])) := by
  refine ocall_of (by decide) (Nat.le_of_ble_eq_true rfl) ?_
  show ORuns g (d + 1) 2 10 iX1_init 0 [(0, .ref (og_b g + 96)), (1, .ref (og_b g + 24))] [] (PS 96 [(96, 0), (96, 1), (96, 2), (92, 1), (92, 2), (92, 3), (92, 4), (92, 5), (1, 10), (1, 11), (1, 12), (1, 16)]) _
  refine r_aload_n (n := 1) 0 dX1_init_0 rfl rfl ?_
  refine r_objInit (n := 4) gw_161 ⟨gw_85, gw_86⟩ (Nat.le_of_ble_eq_true rfl) dX1_init_1 rfl ?_
  refine r_aload_n (n := 5) 0 dX1_init_4 rfl rfl ?_
  refine r_iconst (n := 6) (v := 5) dX1_init_5 (by decide) rfl ?_
  refine p_newarr (n := 8) (m := 96) (L' := [(96, 0), (96, 1), (96, 2), (92, 1), (92, 2), (92, 3), (92, 4), (92, 5), (1, 10), (1, 11), (1, 12), (1, 16)]) (t := 11) (i0 := 0) (fty := .int) (z := 5) (Z := 5) (mc := 1) (ms := 5) (by decide +kernel) (by decide +kernel) rfl (by decide) (fun _ => rfl) rfl na_int gw_105 (by decide) dX1_init_6 rfl ?_
  show ORuns g (d + 1) 1 5 iX1_init 8 [(0, .ref (og_b g + 96)), (1, .ref (og_b g + 24))] [.ref (og_b g + 97), .ref (og_b g + 96)] (PS 97 [(96, 0), (96, 1), (96, 2), (92, 1), (92, 2), (92, 3), (92, 4), (92, 5), (1, 10), (1, 11), (1, 12), (1, 16)]) _
  refine p_putR (n := 11) (v := 97) (m := 97) (a := 96) (L' := [(96, 0), (96, 2), (92, 1), (92, 2), (92, 3), (92, 4), (92, 5), (1, 10), (1, 11), (1, 12), (1, 16)]) 1 (by decide) (by decide +kernel) (by decide +kernel) cls_1 fi_1_1 (Or.inr ⟨rfl, rfl, rfl⟩) (fun _ => ⟨rfl, rfl⟩) (ps_obj (by decide +kernel)) gw_163 dX1_init_8 rfl ?_
  refine r_aload_n (n := 12) 0 dX1_init_11 rfl rfl ?_
  refine r_iconst (n := 13) (v := 5) dX1_init_12 (by decide) rfl ?_
  refine p_newarr (n := 15) (m := 97) (L' := [(96, 0), (96, 2), (92, 1), (92, 2), (92, 3), (92, 4), (92, 5), (1, 10), (1, 11), (1, 12), (1, 16)]) (t := 11) (i0 := 0) (fty := .int) (z := 5) (Z := 5) (mc := 0) (ms := 0) (by decide +kernel) (by decide +kernel) rfl (by decide) (fun _ => rfl) rfl na_int gw_105 (by decide) dX1_init_13 rfl ?_
  show ORuns g (d + 1) 0 0 iX1_init 15 [(0, .ref (og_b g + 96)), (1, .ref (og_b g + 24))] [.ref (og_b g + 98), .ref (og_b g + 96)] (PS 98 [(96, 0), (96, 2), (92, 1), (92, 2), (92, 3), (92, 4), (92, 5), (1, 10), (1, 11), (1, 12), (1, 16)]) _
  refine p_putR (n := 18) (v := 98) (m := 98) (a := 96) (L' := [(96, 0), (92, 1), (92, 2), (92, 3), (92, 4), (92, 5), (1, 10), (1, 11), (1, 12), (1, 16)]) 2 (by decide) (by decide +kernel) (by decide +kernel) cls_1 fi_1_2 (Or.inr ⟨rfl, rfl, rfl⟩) (fun _ => ⟨rfl, rfl⟩) (ps_obj (by decide +kernel)) gw_164 dX1_init_15 rfl ?_
  refine r_aload_n (n := 19) 0 dX1_init_18 rfl rfl ?_
  refine r_iconst (n := 20) (v := 0) dX1_init_19 (by decide) rfl ?_
  refine p_putI (n := 23) (m := 98) (a := 96) (L' := [(96, 0), (92, 1), (92, 2), (92, 3), (92, 4), (92, 5), (1, 10), (1, 11), (1, 12), (1, 16)]) 3 (by decide +kernel) (by decide +kernel) cls_1 fp_1_3 (ps_obj (by decide +kernel)) gw_165 dX1_init_20 rfl ?_
  refine r_aload_n (n := 24) 0 dX1_init_23 rfl rfl ?_
  refine r_iconst (n := 25) (v := 0) dX1_init_24 (by decide) rfl ?_
  refine p_putI (n := 28) (m := 98) (a := 96) (L' := [(96, 0), (92, 1), (92, 2), (92, 3), (92, 4), (92, 5), (1, 10), (1, 11), (1, 12), (1, 16)]) 4 (by decide +kernel) (by decide +kernel) cls_1 fp_1_4 (ps_obj (by decide +kernel)) gw_169 dX1_init_25 rfl ?_
  refine r_aload_n (n := 29) 0 dX1_init_28 rfl rfl ?_
  refine r_iconst (n := 30) (v := 0) dX1_init_29 (by decide) rfl ?_
  refine p_putZ (n := 33) (m := 98) (a := 96) (L' := [(96, 0), (92, 1), (92, 2), (92, 3), (92, 4), (92, 5), (1, 10), (1, 11), (1, 12), (1, 16)]) 5 (by decide) (by decide +kernel) (by decide +kernel) cls_1 fp_1_5 (ps_obj (by decide +kernel)) gw_171 dX1_init_30 rfl ?_
  refine r_aload_n (n := 34) 0 dX1_init_33 rfl rfl ?_
  refine r_iconst (n := 35) (v := 0) dX1_init_34 (by decide) rfl ?_
  refine p_putZ (n := 38) (m := 98) (a := 96) (L' := [(96, 0), (92, 1), (92, 2), (92, 3), (92, 4), (92, 5), (1, 10), (1, 11), (1, 12), (1, 16)]) 6 (by decide) (by decide +kernel) (by decide +kernel) cls_1 fp_1_6 (ps_obj (by decide +kernel)) gw_173 dX1_init_35 rfl ?_
  refine r_aload_n (n := 39) 0 dX1_init_38 rfl rfl ?_
  refine r_aload_n (n := 40) 1 dX1_init_39 rfl rfl ?_
  refine p_putR (n := 43) (v := 24) (m := 98) (a := 96) (L' := [(92, 1), (92, 2), (92, 3), (92, 4), (92, 5), (1, 10), (1, 11), (1, 12), (1, 16)]) 0 (by decide) (by decide +kernel) (by decide +kernel) cls_1 fi_1_0 (Or.inr ⟨rfl, rfl, rfl⟩) (fun _ => ⟨rfl, rfl⟩) (ps_obj (by decide +kernel)) gw_162 dX1_init_40 rfl ?_
  exact r_vret (st := []) dX1_init_43 rfl rfl
set_option maxRecDepth 20000 in
theorem k_99 {g : OG} {d : Nat} : OCall g (d + 1) 2 10 iX1_init [.ref (og_b g + 99), .ref (og_b g + 24)] (PS 99 [(99, 0), (99, 1), (99, 2), (92, 2), (92, 3), (92, 4), (92, 5), (1, 10), (1, 11), (1, 12), (1, 16)]) (QV (fun h' => h' = PS 101 [(92, 2), (92, 3), (92, 4), (92, 5), (1, 10), (1, 11), (1, 12), (1, 16)])) := by
  refine ocall_of (by decide) (Nat.le_of_ble_eq_true rfl) ?_
  show ORuns g (d + 1) 2 10 iX1_init 0 [(0, .ref (og_b g + 99)), (1, .ref (og_b g + 24))] [] (PS 99 [(99, 0), (99, 1), (99, 2), (92, 2), (92, 3), (92, 4), (92, 5), (1, 10), (1, 11), (1, 12), (1, 16)]) _
  refine r_aload_n (n := 1) 0 dX1_init_0 rfl rfl ?_
  refine r_objInit (n := 4) gw_161 ⟨gw_85, gw_86⟩ (Nat.le_of_ble_eq_true rfl) dX1_init_1 rfl ?_
  refine r_aload_n (n := 5) 0 dX1_init_4 rfl rfl ?_
  refine r_iconst (n := 6) (v := 5) dX1_init_5 (by decide) rfl ?_
  refine p_newarr (n := 8) (m := 99) (L' := [(99, 0), (99, 1), (99, 2), (92, 2), (92, 3), (92, 4), (92, 5), (1, 10), (1, 11), (1, 12), (1, 16)]) (t := 11) (i0 := 0) (fty := .int) (z := 5) (Z := 5) (mc := 1) (ms := 5) (by decide +kernel) (by decide +kernel) rfl (by decide) (fun _ => rfl) rfl na_int gw_105 (by decide) dX1_init_6 rfl ?_
  show ORuns g (d + 1) 1 5 iX1_init 8 [(0, .ref (og_b g + 99)), (1, .ref (og_b g + 24))] [.ref (og_b g + 100), .ref (og_b g + 99)] (PS 100 [(99, 0), (99, 1), (99, 2), (92, 2), (92, 3), (92, 4), (92, 5), (1, 10), (1, 11), (1, 12), (1, 16)]) _
  refine p_putR (n := 11) (v := 100) (m := 100) (a := 99) (L' := [(99, 0), (99, 2), (92, 2), (92, 3), (92, 4), (92, 5), (1, 10), (1, 11), (1, 12), (1, 16)]) 1 (by decide) (by decide +kernel) (by decide +kernel) cls_1 fi_1_1 (Or.inr ⟨rfl, rfl, rfl⟩) (fun _ => ⟨rfl, rfl⟩) (ps_obj (by decide +kernel)) gw_163 dX1_init_8 rfl ?_
  refine r_aload_n (n := 12) 0 dX1_init_11 rfl rfl ?_
  refine r_iconst (n := 13) (v := 5) dX1_init_12 (by decide) rfl ?_
  refine p_newarr (n := 15) (m := 100) (L' := [(99, 0), (99, 2), (92, 2), (92, 3), (92, 4), (92, 5), (1, 10), (1, 11), (1, 12), (1, 16)]) (t := 11) (i0 := 0) (fty := .int) (z := 5) (Z := 5) (mc := 0) (ms := 0) (by decide +kernel) (by decide +kernel) rfl (by decide) (fun _ => rfl) rfl na_int gw_105 (by decide) dX1_init_13 rfl ?_
  show ORuns g (d + 1) 0 0 iX1_init 15 [(0, .ref (og_b g + 99)), (1, .ref (og_b g + 24))] [.ref (og_b g + 101), .ref (og_b g + 99)] (PS 101 [(99, 0), (99, 2), (92, 2), (92, 3), (92, 4), (92, 5), (1, 10), (1, 11), (1, 12), (1, 16)]) _
  refine p_putR (n := 18) (v := 101) (m := 101) (a := 99) (L' := [(99, 0), (92, 2), (92, 3), (92, 4), (92, 5), (1, 10), (1, 11), (1, 12), (1, 16)]) 2 (by decide) (by decide +kernel) (by decide +kernel) cls_1 fi_1_2 (Or.inr ⟨rfl, rfl, rfl⟩) (fun _ => ⟨rfl, rfl⟩) (ps_obj (by decide +kernel)) gw_164 dX1_init_15 rfl ?_
  refine r_aload_n (n := 19) 0 dX1_init_18 rfl rfl ?_
  refine r_iconst (n := 20) (v := 0) dX1_init_19 (by decide) rfl ?_
  refine p_putI (n := 23) (m := 101) (a := 99) (L' := [(99, 0), (92, 2), (92, 3), (92, 4), (92, 5), (1, 10), (1, 11), (1, 12), (1, 16)]) 3 (by decide +kernel) (by decide +kernel) cls_1 fp_1_3 (ps_obj (by decide +kernel)) gw_165 dX1_init_20 rfl ?_
  refine r_aload_n (n := 24) 0 dX1_init_23 rfl rfl ?_
  refine r_iconst (n := 25) (v := 0) dX1_init_24 (by decide) rfl ?_
  refine p_putI (n := 28) (m := 101) (a := 99) (L' := [(99, 0), (92, 2), (92, 3), (92, 4), (92, 5), (1, 10), (1, 11), (1, 12), (1, 16)]) 4 (by decide +kernel) (by decide +kernel) cls_1 fp_1_4 (ps_obj (by decide +kernel)) gw_169 dX1_init_25 rfl ?_
  refine r_aload_n (n := 29) 0 dX1_init_28 rfl rfl ?_
  refine r_iconst (n := 30) (v := 0) dX1_init_29 (by decide) rfl ?_
  refine p_putZ (n := 33) (m := 101) (a := 99) (L' := [(99, 0), (92, 2), (92, 3), (92, 4), (92, 5), (1, 10), (1, 11), (1, 12), (1, 16)]) 5 (by decide) (by decide +kernel) (by decide +kernel) cls_1 fp_1_5 (ps_obj (by decide +kernel)) gw_171 dX1_init_30 rfl ?_
  refine r_aload_n (n := 34) 0 dX1_init_33 rfl rfl ?_
  refine r_iconst (n := 35) (v := 0) dX1_init_34 (by decide) rfl ?_
  refine p_putZ (n := 38) (m := 101) (a := 99) (L' := [(99, 0), (92, 2), (92, 3), (92, 4), (92, 5), (1, 10), (1, 11), (1, 12), (1, 16)]) 6 (by decide) (by decide +kernel) (by decide +kernel) cls_1 fp_1_6 (ps_obj (by decide +kernel)) gw_173 dX1_init_35 rfl ?_
  refine r_aload_n (n := 39) 0 dX1_init_38 rfl rfl ?_
  refine r_aload_n (n := 40) 1 dX1_init_39 rfl rfl ?_
  refine p_putR (n := 43) (v := 24) (m := 101) (a := 99) (L' := [(92, 2), (92, 3), (92, 4), (92, 5), (1, 10), (1, 11), (1, 12), (1, 16)]) 0 (by decide) (by decide +kernel) (by decide +kernel) cls_1 fi_1_0 (Or.inr ⟨rfl, rfl, rfl⟩) (fun _ => ⟨rfl, rfl⟩) (ps_obj (by decide +kernel)) gw_162 dX1_init_40 rfl ?_
  exact r_vret (st := []) dX1_init_43 rfl rfl
set_option maxRecDepth 20000 in
theorem k_102 {g : OG} {d : Nat} : OCall g (d + 1) 2 10 iX1_init [.ref (og_b g + 102), .ref (og_b g + 24)] (PS 102 [(102, 0), (102, 1), (102, 2), (92, 3), (92, 4), (92, 5), (1, 10), (1, 11), (1, 12), (1, 16)]) (QV (fun h' => h' = PS 104 [(92, 3), (92, 4), (92, 5), (1, 10), (1, 11), (1, 12), (1, 16)])) := by
  refine ocall_of (by decide) (Nat.le_of_ble_eq_true rfl) ?_
  show ORuns g (d + 1) 2 10 iX1_init 0 [(0, .ref (og_b g + 102)), (1, .ref (og_b g + 24))] [] (PS 102 [(102, 0), (102, 1), (102, 2), (92, 3), (92, 4), (92, 5), (1, 10), (1, 11), (1, 12), (1, 16)]) _
  refine r_aload_n (n := 1) 0 dX1_init_0 rfl rfl ?_
  refine r_objInit (n := 4) gw_161 ⟨gw_85, gw_86⟩ (Nat.le_of_ble_eq_true rfl) dX1_init_1 rfl ?_
  refine r_aload_n (n := 5) 0 dX1_init_4 rfl rfl ?_
  refine r_iconst (n := 6) (v := 5) dX1_init_5 (by decide) rfl ?_
  refine p_newarr (n := 8) (m := 102) (L' := [(102, 0), (102, 1), (102, 2), (92, 3), (92, 4), (92, 5), (1, 10), (1, 11), (1, 12), (1, 16)]) (t := 11) (i0 := 0) (fty := .int) (z := 5) (Z := 5) (mc := 1) (ms := 5) (by decide +kernel) (by decide +kernel) rfl (by decide) (fun _ => rfl) rfl na_int gw_105 (by decide) dX1_init_6 rfl ?_
  show ORuns g (d + 1) 1 5 iX1_init 8 [(0, .ref (og_b g + 102)), (1, .ref (og_b g + 24))] [.ref (og_b g + 103), .ref (og_b g + 102)] (PS 103 [(102, 0), (102, 1), (102, 2), (92, 3), (92, 4), (92, 5), (1, 10), (1, 11), (1, 12), (1, 16)]) _
  refine p_putR (n := 11) (v := 103) (m := 103) (a := 102) (L' := [(102, 0), (102, 2), (92, 3), (92, 4), (92, 5), (1, 10), (1, 11), (1, 12), (1, 16)]) 1 (by decide) (by decide +kernel) (by decide +kernel) cls_1 fi_1_1 (Or.inr ⟨rfl, rfl, rfl⟩) (fun _ => ⟨rfl, rfl⟩) (ps_obj (by decide +kernel)) gw_163 dX1_init_8 rfl ?_
  refine r_aload_n (n := 12) 0 dX1_init_11 rfl rfl ?_
  refine r_iconst (n := 13) (v := 5) dX1_init_12 (by decide) rfl ?_
  refine p_newarr (n := 15) (m := 103) (L' := [(102, 0), (102, 2), (92, 3), (92, 4), (92, 5), (1, 10), (1, 11), (1, 12), (1, 16)]) (t := 11) (i0 := 0) (fty := .int) (z := 5) (Z := 5) (mc := 0) (ms := 0) (by decide +kernel) (by decide +kernel) rfl (by decide) (fun _ => rfl) rfl na_int gw_105 (by decide) dX1_init_13 rfl ?_
  show ORuns g (d + 1) 0 0 iX1_init 15 [(0, .ref (og_b g + 102)), (1, .ref (og_b g + 24))] [.ref (og_b g + 104), .ref (og_b g + 102)] (PS 104 [(102, 0), (102, 2), (92, 3), (92, 4), (92, 5), (1, 10), (1, 11), (1, 12), (1, 16)]) _
  refine p_putR (n := 18) (v := 104) (m := 104) (a := 102) (L' := [(102, 0), (92, 3), (92, 4), (92, 5), (1, 10), (1, 11), (1, 12), (1, 16)]) 2 (by decide) (by decide +kernel) (by decide +kernel) cls_1 fi_1_2 (Or.inr ⟨rfl, rfl, rfl⟩) (fun _ => ⟨rfl, rfl⟩) (ps_obj (by decide +kernel)) gw_164 dX1_init_15 rfl ?_
  refine r_aload_n (n := 19) 0 dX1_init_18 rfl rfl ?_
  refine r_iconst (n := 20) (v := 0) dX1_init_19 (by decide) rfl ?_
  refine p_putI (n := 23) (m := 104) (a := 102) (L' := [(102, 0), (92, 3), (92, 4), (92, 5), (1, 10), (1, 11), (1, 12), (1, 16)]) 3 (by decide +kernel) (by decide +kernel) cls_1 fp_1_3 (ps_obj (by decide +kernel)) gw_165 dX1_init_20 rfl ?_
  refine r_aload_n (n := 24) 0 dX1_init_23 rfl rfl ?_
  refine r_iconst (n := 25) (v := 0) dX1_init_24 (by decide) rfl ?_
  refine p_putI (n := 28) (m := 104) (a := 102) (L' := [(102, 0), (92, 3), (92, 4), (92, 5), (1, 10), (1, 11), (1, 12), (1, 16)]) 4 (by decide +kernel) (by decide +kernel) cls_1 fp_1_4 (ps_obj (by decide +kernel)) gw_169 dX1_init_25 rfl ?_
  refine r_aload_n (n := 29) 0 dX1_init_28 rfl rfl ?_
  refine r_iconst (n := 30) (v := 0) dX1_init_29 (by decide) rfl ?_
  refine p_putZ (n := 33) (m := 104) (a := 102) (L' := [(102, 0), (92, 3), (92, 4), (92, 5), (1, 10), (1, 11), (1, 12), (1, 16)]) 5 (by decide) (by decide +kernel) (by decide +kernel) cls_1 fp_1_5 (ps_obj (by decide +kernel)) gw_171 dX1_init_30 rfl ?_
  refine r_aload_n (n := 34) 0 dX1_init_33 rfl rfl ?_
  refine r_iconst (n := 35) (v := 0) dX1_init_34 (by decide) rfl ?_
  refine p_putZ (n := 38) (m := 104) (a := 102) (L' := [(102, 0), (92, 3), (92, 4), (92, 5), (1, 10), (1, 11), (1, 12), (1, 16)]) 6 (by decide) (by decide +kernel) (by decide +kernel) cls_1 fp_1_6 (ps_obj (by decide +kernel)) gw_173 dX1_init_35 rfl ?_
  refine r_aload_n (n := 39) 0 dX1_init_38 rfl rfl ?_
  refine r_aload_n (n := 40) 1 dX1_init_39 rfl rfl ?_
  refine p_putR (n := 43) (v := 24) (m := 104) (a := 102) (L' := [(92, 3), (92, 4), (92, 5), (1, 10), (1, 11), (1, 12), (1, 16)]) 0 (by decide) (by decide +kernel) (by decide +kernel) cls_1 fi_1_0 (Or.inr ⟨rfl, rfl, rfl⟩) (fun _ => ⟨rfl, rfl⟩) (ps_obj (by decide +kernel)) gw_162 dX1_init_40 rfl ?_
  exact r_vret (st := []) dX1_init_43 rfl rfl
set_option maxRecDepth 20000 in
theorem k_105 {g : OG} {d : Nat} : OCall g (d + 1) 2 10 iX1_init [.ref (og_b g + 105), .ref (og_b g + 24)] (PS 105 [(105, 0), (105, 1), (105, 2), (92, 4), (92, 5), (1, 10), (1, 11), (1, 12), (1, 16)]) (QV (fun h' => h' = PS 107 [(92, 4), (92, 5), (1, 10), (1, 11), (1, 12), (1, 16)])) := by
  refine ocall_of (by decide) (Nat.le_of_ble_eq_true rfl) ?_
  show ORuns g (d + 1) 2 10 iX1_init 0 [(0, .ref (og_b g + 105)), (1, .ref (og_b g + 24))] [] (PS 105 [(105, 0), (105, 1), (105, 2), (92, 4), (92, 5), (1, 10), (1, 11), (1, 12), (1, 16)]) _
  refine r_aload_n (n := 1) 0 dX1_init_0 rfl rfl ?_
  refine r_objInit (n := 4) gw_161 ⟨gw_85, gw_86⟩ (Nat.le_of_ble_eq_true rfl) dX1_init_1 rfl ?_
  refine r_aload_n (n := 5) 0 dX1_init_4 rfl rfl ?_
  refine r_iconst (n := 6) (v := 5) dX1_init_5 (by decide) rfl ?_
  refine p_newarr (n := 8) (m := 105) (L' := [(105, 0), (105, 1), (105, 2), (92, 4), (92, 5), (1, 10), (1, 11), (1, 12), (1, 16)]) (t := 11) (i0 := 0) (fty := .int) (z := 5) (Z := 5) (mc := 1) (ms := 5) (by decide +kernel) (by decide +kernel) rfl (by decide) (fun _ => rfl) rfl na_int gw_105 (by decide) dX1_init_6 rfl ?_
  show ORuns g (d + 1) 1 5 iX1_init 8 [(0, .ref (og_b g + 105)), (1, .ref (og_b g + 24))] [.ref (og_b g + 106), .ref (og_b g + 105)] (PS 106 [(105, 0), (105, 1), (105, 2), (92, 4), (92, 5), (1, 10), (1, 11), (1, 12), (1, 16)]) _
  refine p_putR (n := 11) (v := 106) (m := 106) (a := 105) (L' := [(105, 0), (105, 2), (92, 4), (92, 5), (1, 10), (1, 11), (1, 12), (1, 16)]) 1 (by decide) (by decide +kernel) (by decide +kernel) cls_1 fi_1_1 (Or.inr ⟨rfl, rfl, rfl⟩) (fun _ => ⟨rfl, rfl⟩) (ps_obj (by decide +kernel)) gw_163 dX1_init_8 rfl ?_
  refine r_aload_n (n := 12) 0 dX1_init_11 rfl rfl ?_
  refine r_iconst (n := 13) (v := 5) dX1_init_12 (by decide) rfl ?_
  refine p_newarr (n := 15) (m := 106) (L' := [(105, 0), (105, 2), (92, 4), (92, 5), (1, 10), (1, 11), (1, 12), (1, 16)]) (t := 11) (i0 := 0) (fty := .int) (z := 5) (Z := 5) (mc := 0) (ms := 0) (by decide +kernel) (by decide +kernel) rfl (by decide) (fun _ => rfl) rfl na_int gw_105 (by decide) dX1_init_13 rfl ?_
  show ORuns g (d + 1) 0 0 iX1_init 15 [(0, .ref (og_b g + 105)), (1, .ref (og_b g + 24))] [.ref (og_b g + 107), .ref (og_b g + 105)] (PS 107 [(105, 0), (105, 2), (92, 4), (92, 5), (1, 10), (1, 11), (1, 12), (1, 16)]) _
  refine p_putR (n := 18) (v := 107) (m := 107) (a := 105) (L' := [(105, 0), (92, 4), (92, 5), (1, 10), (1, 11), (1, 12), (1, 16)]) 2 (by decide) (by decide +kernel) (by decide +kernel) cls_1 fi_1_2 (Or.inr ⟨rfl, rfl, rfl⟩) (fun _ => ⟨rfl, rfl⟩) (ps_obj (by decide +kernel)) gw_164 dX1_init_15 rfl ?_
  refine r_aload_n (n := 19) 0 dX1_init_18 rfl rfl ?_
  refine r_iconst (n := 20) (v := 0) dX1_init_19 (by decide) rfl ?_
  refine p_putI (n := 23) (m := 107) (a := 105) (L' := [(105, 0), (92, 4), (92, 5), (1, 10), (1, 11), (1, 12), (1, 16)]) 3 (by decide +kernel) (by decide +kernel) cls_1 fp_1_3 (ps_obj (by decide +kernel)) gw_165 dX1_init_20 rfl ?_
  refine r_aload_n (n := 24) 0 dX1_init_23 rfl rfl ?_
  refine r_iconst (n := 25) (v := 0) dX1_init_24 (by decide) rfl ?_
  refine p_putI (n := 28) (m := 107) (a := 105) (L' := [(105, 0), (92, 4), (92, 5), (1, 10), (1, 11), (1, 12), (1, 16)]) 4 (by decide +kernel) (by decide +kernel) cls_1 fp_1_4 (ps_obj (by decide +kernel)) gw_169 dX1_init_25 rfl ?_
  refine r_aload_n (n := 29) 0 dX1_init_28 rfl rfl ?_
  refine r_iconst (n := 30) (v := 0) dX1_init_29 (by decide) rfl ?_
  refine p_putZ (n := 33) (m := 107) (a := 105) (L' := [(105, 0), (92, 4), (92, 5), (1, 10), (1, 11), (1, 12), (1, 16)]) 5 (by decide) (by decide +kernel) (by decide +kernel) cls_1 fp_1_5 (ps_obj (by decide +kernel)) gw_171 dX1_init_30 rfl ?_
  refine r_aload_n (n := 34) 0 dX1_init_33 rfl rfl ?_
  refine r_iconst (n := 35) (v := 0) dX1_init_34 (by decide) rfl ?_
  refine p_putZ (n := 38) (m := 107) (a := 105) (L' := [(105, 0), (92, 4), (92, 5), (1, 10), (1, 11), (1, 12), (1, 16)]) 6 (by decide) (by decide +kernel) (by decide +kernel) cls_1 fp_1_6 (ps_obj (by decide +kernel)) gw_173 dX1_init_35 rfl ?_
  refine r_aload_n (n := 39) 0 dX1_init_38 rfl rfl ?_
  refine r_aload_n (n := 40) 1 dX1_init_39 rfl rfl ?_
  refine p_putR (n := 43) (v := 24) (m := 107) (a := 105) (L' := [(92, 4), (92, 5), (1, 10), (1, 11), (1, 12), (1, 16)]) 0 (by decide) (by decide +kernel) (by decide +kernel) cls_1 fi_1_0 (Or.inr ⟨rfl, rfl, rfl⟩) (fun _ => ⟨rfl, rfl⟩) (ps_obj (by decide +kernel)) gw_162 dX1_init_40 rfl ?_
  exact r_vret (st := []) dX1_init_43 rfl rfl
set_option maxRecDepth 20000 in
theorem k_108 {g : OG} {d : Nat} : OCall g (d + 1) 2 10 iX1_init [.ref (og_b g + 108), .ref (og_b g + 24)] (PS 108 [(108, 0), (108, 1), (108, 2), (92, 5), (1, 10), (1, 11), (1, 12), (1, 16)]) (QV (fun h' => h' = PS 110 [(92, 5), (1, 10), (1, 11), (1, 12), (1, 16)])) := by
  refine ocall_of (by decide) (Nat.le_of_ble_eq_true rfl) ?_
  show ORuns g (d + 1) 2 10 iX1_init 0 [(0, .ref (og_b g + 108)), (1, .ref (og_b g + 24))] [] (PS 108 [(108, 0), (108, 1), (108, 2), (92, 5), (1, 10), (1, 11), (1, 12), (1, 16)]) _
  refine r_aload_n (n := 1) 0 dX1_init_0 rfl rfl ?_
  refine r_objInit (n := 4) gw_161 ⟨gw_85, gw_86⟩ (Nat.le_of_ble_eq_true rfl) dX1_init_1 rfl ?_
  refine r_aload_n (n := 5) 0 dX1_init_4 rfl rfl ?_
  refine r_iconst (n := 6) (v := 5) dX1_init_5 (by decide) rfl ?_
  refine p_newarr (n := 8) (m := 108) (L' := [(108, 0), (108, 1), (108, 2), (92, 5), (1, 10), (1, 11), (1, 12), (1, 16)]) (t := 11) (i0 := 0) (fty := .int) (z := 5) (Z := 5) (mc := 1) (ms := 5) (by decide +kernel) (by decide +kernel) rfl (by decide) (fun _ => rfl) rfl na_int gw_105 (by decide) dX1_init_6 rfl ?_
  show ORuns g (d + 1) 1 5 iX1_init 8 [(0, .ref (og_b g + 108)), (1, .ref (og_b g + 24))] [.ref (og_b g + 109), .ref (og_b g + 108)] (PS 109 [(108, 0), (108, 1), (108, 2), (92, 5), (1, 10), (1, 11), (1, 12), (1, 16)]) _
  refine p_putR (n := 11) (v := 109) (m := 109) (a := 108) (L' := [(108, 0), (108, 2), (92, 5), (1, 10), (1, 11), (1, 12), (1, 16)]) 1 (by decide) (by decide +kernel) (by decide +kernel) cls_1 fi_1_1 (Or.inr ⟨rfl, rfl, rfl⟩) (fun _ => ⟨rfl, rfl⟩) (ps_obj (by decide +kernel)) gw_163 dX1_init_8 rfl ?_
  refine r_aload_n (n := 12) 0 dX1_init_11 rfl rfl ?_
  refine r_iconst (n := 13) (v := 5) dX1_init_12 (by decide) rfl ?_
  refine p_newarr (n := 15) (m := 109) (L' := [(108, 0), (108, 2), (92, 5), (1, 10), (1, 11), (1, 12), (1, 16)]) (t := 11) (i0 := 0) (fty := .int) (z := 5) (Z := 5) (mc := 0) (ms := 0) (by decide +kernel) (by decide +kernel) rfl (by decide) (fun _ => rfl) rfl na_int gw_105 (by decide) dX1_init_13 rfl ?_
  show ORuns g (d + 1) 0 0 iX1_init 15 [(0, .ref (og_b g + 108)), (1, .ref (og_b g + 24))] [.ref (og_b g + 110), .ref (og_b g + 108)] (PS 110 [(108, 0), (108, 2), (92, 5), (1, 10), (1, 11), (1, 12), (1, 16)]) _
  refine p_putR (n := 18) (v := 110) (m := 110) (a := 108) (L' := [(108, 0), (92, 5), (1, 10), (1, 11), (1, 12), (1, 16)]) 2 (by decide) (by decide +kernel) (by decide +kernel) cls_1 fi_1_2 (Or.inr ⟨rfl, rfl, rfl⟩) (fun _ => ⟨rfl, rfl⟩) (ps_obj (by decide +kernel)) gw_164 dX1_init_15 rfl ?_
  refine r_aload_n (n := 19) 0 dX1_init_18 rfl rfl ?_
  refine r_iconst (n := 20) (v := 0) dX1_init_19 (by decide) rfl ?_
  refine p_putI (n := 23) (m := 110) (a := 108) (L' := [(108, 0), (92, 5), (1, 10), (1, 11), (1, 12), (1, 16)]) 3 (by decide +kernel) (by decide +kernel) cls_1 fp_1_3 (ps_obj (by decide +kernel)) gw_165 dX1_init_20 rfl ?_
  refine r_aload_n (n := 24) 0 dX1_init_23 rfl rfl ?_
  refine r_iconst (n := 25) (v := 0) dX1_init_24 (by decide) rfl ?_
  refine p_putI (n := 28) (m := 110) (a := 108) (L' := [(108, 0), (92, 5), (1, 10), (1, 11), (1, 12), (1, 16)]) 4 (by decide +kernel) (by decide +kernel) cls_1 fp_1_4 (ps_obj (by decide +kernel)) gw_169 dX1_init_25 rfl ?_
  refine r_aload_n (n := 29) 0 dX1_init_28 rfl rfl ?_
  refine r_iconst (n := 30) (v := 0) dX1_init_29 (by decide) rfl ?_
  refine p_putZ (n := 33) (m := 110) (a := 108) (L' := [(108, 0), (92, 5), (1, 10), (1, 11), (1, 12), (1, 16)]) 5 (by decide) (by decide +kernel) (by decide +kernel) cls_1 fp_1_5 (ps_obj (by decide +kernel)) gw_171 dX1_init_30 rfl ?_
  refine r_aload_n (n := 34) 0 dX1_init_33 rfl rfl ?_
  refine r_iconst (n := 35) (v := 0) dX1_init_34 (by decide) rfl ?_
  refine p_putZ (n := 38) (m := 110) (a := 108) (L' := [(108, 0), (92, 5), (1, 10), (1, 11), (1, 12), (1, 16)]) 6 (by decide) (by decide +kernel) (by decide +kernel) cls_1 fp_1_6 (ps_obj (by decide +kernel)) gw_173 dX1_init_35 rfl ?_
  refine r_aload_n (n := 39) 0 dX1_init_38 rfl rfl ?_
  refine r_aload_n (n := 40) 1 dX1_init_39 rfl rfl ?_
  refine p_putR (n := 43) (v := 24) (m := 110) (a := 108) (L' := [(92, 5), (1, 10), (1, 11), (1, 12), (1, 16)]) 0 (by decide) (by decide +kernel) (by decide +kernel) cls_1 fi_1_0 (Or.inr ⟨rfl, rfl, rfl⟩) (fun _ => ⟨rfl, rfl⟩) (ps_obj (by decide +kernel)) gw_162 dX1_init_40 rfl ?_
  exact r_vret (st := []) dX1_init_43 rfl rfl
set_option maxRecDepth 20000 in
theorem k_91 {g : OG} {d : Nat} : OCall g (d + 2) 19 108 iX8_init [.ref (og_b g + 91), .ref (og_b g + 24)] (PS 91 [(91, 0), (91, 1), (1, 10), (1, 11), (1, 12), (1, 16)]) (QV (fun h' => h' = PS 110 [(1, 10), (1, 11), (1, 12), (1, 16)])) := by
  refine ocall_of (by decide) (Nat.le_of_ble_eq_true rfl) ?_
  show ORuns g (d + 2) 19 108 iX8_init 0 [(0, .ref (og_b g + 91)), (1, .ref (og_b g + 24))] [] (PS 91 [(91, 0), (91, 1), (1, 10), (1, 11), (1, 12), (1, 16)]) _
  refine r_aload_n (n := 1) 0 dX8_init_0 rfl rfl ?_
  refine r_objInit (n := 4) gw_269 ⟨gw_85, gw_86⟩ (Nat.le_of_ble_eq_true rfl) dX8_init_1 rfl ?_
  refine r_aload_n (n := 5) 0 dX8_init_4 rfl rfl ?_
  refine r_bipush (n := 7) (v := 6) dX8_init_5 (by decide) rfl ?_
  refine p_anew (n := 10) (m := 91) (L' := [(92, 0), (92, 1), (92, 2), (92, 3), (92, 4), (92, 5), (91, 0), (91, 1), (1, 10), (1, 11), (1, 12), (1, 16)]) (t := 17) (i0 := 6) (z := 6) (Z := 6) (mc := 18) (ms := 102) (by decide +kernel) (by decide +kernel) (by decide) (fun _ => rfl) gw_270 (fun _ h => h.2.2.1.2.2.2) (by decide) dX8_init_7 rfl ?_
  show ORuns g (d + 2) 18 102 iX8_init 10 [(0, .ref (og_b g + 91)), (1, .ref (og_b g + 24))] [.ref (og_b g + 92), .ref (og_b g + 91)] (PS 92 [(92, 0), (92, 1), (92, 2), (92, 3), (92, 4), (92, 5), (91, 0), (91, 1), (1, 10), (1, 11), (1, 12), (1, 16)]) _
  refine p_putR (n := 13) (v := 92) (m := 92) (a := 91) (L' := [(92, 0), (92, 1), (92, 2), (92, 3), (92, 4), (92, 5), (91, 0), (1, 10), (1, 11), (1, 12), (1, 16)]) 1 (by decide) (by decide +kernel) (by decide +kernel) cls_7 fi_7_1 (Or.inr ⟨rfl, rfl, rfl⟩) (fun _ => ⟨rfl, rfl⟩) (ps_obj (by decide +kernel)) gw_273 dX8_init_10 rfl ?_
  refine r_aload_n (n := 14) 0 dX8_init_13 rfl rfl ?_
  refine r_null (n := 15) dX8_init_14 rfl ?_
  refine p_putNull (n := 18) (m := 92) (a := 91) (L' := [(92, 0), (92, 1), (92, 2), (92, 3), (92, 4), (92, 5), (91, 0), (1, 10), (1, 11), (1, 12), (1, 16)]) 2 (by decide +kernel) (by decide +kernel) cls_7 fi_7_2 rfl ⟨rfl, rfl⟩ (ps_obj (by decide +kernel)) gw_274 dX8_init_15 rfl ?_
  refine r_aload_n (n := 19) 0 dX8_init_18 rfl rfl ?_
  refine r_iconst (n := 20) (v := 0) dX8_init_19 (by decide) rfl ?_
  refine p_putI (n := 23) (m := 92) (a := 91) (L' := [(92, 0), (92, 1), (92, 2), (92, 3), (92, 4), (92, 5), (91, 0), (1, 10), (1, 11), (1, 12), (1, 16)]) 3 (by decide +kernel) (by decide +kernel) cls_7 fp_7_3 (ps_obj (by decide +kernel)) gw_275 dX8_init_20 rfl ?_
  refine r_aload_n (n := 24) 0 dX8_init_23 rfl rfl ?_
  refine r_iconst (n := 25) (v := 0) dX8_init_24 (by decide) rfl ?_
  refine p_putI (n := 28) (m := 92) (a := 91) (L' := [(92, 0), (92, 1), (92, 2), (92, 3), (92, 4), (92, 5), (91, 0), (1, 10), (1, 11), (1, 12), (1, 16)]) 4 (by decide +kernel) (by decide +kernel) cls_7 fp_7_4 (ps_obj (by decide +kernel)) gw_277 dX8_init_25 rfl ?_
  refine r_aload_n (n := 29) 0 dX8_init_28 rfl rfl ?_
  refine r_aload_n (n := 30) 1 dX8_init_29 rfl rfl ?_
  refine p_putR (n := 33) (v := 24) (m := 92) (a := 91) (L' := [(92, 0), (92, 1), (92, 2), (92, 3), (92, 4), (92, 5), (1, 10), (1, 11), (1, 12), (1, 16)]) 0 (by decide) (by decide +kernel) (by decide +kernel) cls_7 fi_7_0 (Or.inr ⟨rfl, rfl, rfl⟩) (fun _ => ⟨rfl, rfl⟩) (ps_obj (by decide +kernel)) gw_272 dX8_init_30 rfl ?_
  refine r_iconst (n := 34) (v := 0) dX8_init_33 (by decide) rfl ?_
  refine r_istore_n (n := 35) (lv' := [(2, .int 0), (0, .ref (og_b g + 91)), (1, .ref (og_b g + 24))]) dX8_init_34 rfl (by decide) rfl rfl ?_
  refine r_iload_n (n := 36) 0 dX8_init_35 rfl rfl ?_
  refine r_iconst (n := 37) (v := 5) dX8_init_36 (by decide) rfl ?_
  refine r_icmp_gt (n := 40) (tgt := 60) dX8_init_37 (by decide) rfl (fun q => absurd q (by decide)) (fun _ => ?_)
  refine r_aload_n (n := 41) 1 dX8_init_40 rfl rfl ?_
  refine p_getR (n := 44) (x := 92) (m := 92) (a := 91) 1 (by decide +kernel) (by decide) cls_7 fi_7_1 (ps_obj (by decide +kernel)) gw_273 dX8_init_41 rfl ?_
  refine r_iload_n (n := 45) 0 dX8_init_44 rfl rfl ?_
  refine p_new (n := 48) (m := 92) (L' := [(93, 0), (93, 1), (93, 2), (92, 0), (92, 1), (92, 2), (92, 3), (92, 4), (92, 5), (1, 10), (1, 11), (1, 12), (1, 16)]) (mc := 17) (ms := 95) (by decide +kernel) (by decide +kernel) cls_1 ⟨gw_270, gw_157, gw_69⟩ dv_1 dX8_init_45 rfl ?_
  show ORuns g (d + 2) 17 95 iX8_init 48 [(2, .int 0), (0, .ref (og_b g + 91)), (1, .ref (og_b g + 24))] [.ref (og_b g + 93), .int 0, .ref (og_b g + 92)] (PS 93 [(93, 0), (93, 1), (93, 2), (92, 0), (92, 1), (92, 2), (92, 3), (92, 4), (92, 5), (1, 10), (1, 11), (1, 12), (1, 16)]) _
  refine r_dup (n := 49) dX8_init_48 rfl rfl ?_
  refine r_aload_n (n := 50) 2 dX8_init_49 rfl rfl ?_
  refine r_callI (n := 53) (a := 93) (mc' := 2) (ms' := 10) (mc := 15) (ms := 85) (As := [.ref (og_b g + 24)]) (rest := [.ref (og_b g + 93), .int 0, .ref (og_b g + 92)]) cm_X1_init gw_271 rfl (Nat.le_of_ble_eq_true rfl) dX8_init_50 rfl (ocall_mono (fun v h' e => ?_) (k_93))
  obtain ⟨rfl, rfl⟩ := e
  show ORuns g (d + 2) 15 85 iX8_init 53 [(2, .int 0), (0, .ref (og_b g + 91)), (1, .ref (og_b g + 24))] [.ref (og_b g + 93), .int 0, .ref (og_b g + 92)] (PS 95 [(92, 0), (92, 1), (92, 2), (92, 3), (92, 4), (92, 5), (1, 10), (1, 11), (1, 12), (1, 16)]) _
  refine p_aast (n := 54) (m := 95) (a := 92) (v := 93) (j := 0) (L' := [(92, 1), (92, 2), (92, 3), (92, 4), (92, 5), (1, 10), (1, 11), (1, 12), (1, 16)]) (t := 17) (i0 := 6) (z := 6) (by decide +kernel) (by decide +kernel) (by decide) (ps_arr (by decide +kernel)) (by decide) (fun _ => rfl) (ps_obj (by decide +kernel)) ⟨cq_1.1, cq_1.2.1⟩ (vp_in_nI (n := 0) (N := 6) (by decide) (by decide)) dX8_init_53 rfl ?_
  refine r_iinc (n := 57) (v := 1) (lv' := [(2, .int 1), (0, .ref (og_b g + 91)), (1, .ref (og_b g + 24))]) 0 dX8_init_54 rfl (by decide) (by decide) rfl rfl ?_
  refine r_goto (n := 35) dX8_init_57 (by decide) ?_
  refine r_iload_n (n := 36) 0 dX8_init_35 rfl rfl ?_
  refine r_iconst (n := 37) (v := 5) dX8_init_36 (by decide) rfl ?_
  refine r_icmp_gt (n := 40) (tgt := 60) dX8_init_37 (by decide) rfl (fun q => absurd q (by decide)) (fun _ => ?_)
  refine r_aload_n (n := 41) 1 dX8_init_40 rfl rfl ?_
  refine p_getR (n := 44) (x := 92) (m := 95) (a := 91) 1 (by decide +kernel) (by decide) cls_7 fi_7_1 (ps_obj (by decide +kernel)) gw_273 dX8_init_41 rfl ?_
  refine r_iload_n (n := 45) 0 dX8_init_44 rfl rfl ?_
  refine p_new (n := 48) (m := 95) (L' := [(96, 0), (96, 1), (96, 2), (92, 1), (92, 2), (92, 3), (92, 4), (92, 5), (1, 10), (1, 11), (1, 12), (1, 16)]) (mc := 14) (ms := 78) (by decide +kernel) (by decide +kernel) cls_1 ⟨gw_270, gw_157, gw_69⟩ dv_1 dX8_init_45 rfl ?_
  show ORuns g (d + 2) 14 78 iX8_init 48 [(2, .int 1), (0, .ref (og_b g + 91)), (1, .ref (og_b g + 24))] [.ref (og_b g + 96), .int 1, .ref (og_b g + 92)] (PS 96 [(96, 0), (96, 1), (96, 2), (92, 1), (92, 2), (92, 3), (92, 4), (92, 5), (1, 10), (1, 11), (1, 12), (1, 16)]) _
  refine r_dup (n := 49) dX8_init_48 rfl rfl ?_
  refine r_aload_n (n := 50) 2 dX8_init_49 rfl rfl ?_
  refine r_callI (n := 53) (a := 96) (mc' := 2) (ms' := 10) (mc := 12) (ms := 68) (As := [.ref (og_b g + 24)]) (rest := [.ref (og_b g + 96), .int 1, .ref (og_b g + 92)]) cm_X1_init gw_271 rfl (Nat.le_of_ble_eq_true rfl) dX8_init_50 rfl (ocall_mono (fun v h' e => ?_) (k_96))
  obtain ⟨rfl, rfl⟩ := e
  show ORuns g (d + 2) 12 68 iX8_init 53 [(2, .int 1), (0, .ref (og_b g + 91)), (1, .ref (og_b g + 24))] [.ref (og_b g + 96), .int 1, .ref (og_b g + 92)] (PS 98 [(92, 1), (92, 2), (92, 3), (92, 4), (92, 5), (1, 10), (1, 11), (1, 12), (1, 16)]) _
  refine p_aast (n := 54) (m := 98) (a := 92) (v := 96) (j := 1) (L' := [(92, 2), (92, 3), (92, 4), (92, 5), (1, 10), (1, 11), (1, 12), (1, 16)]) (t := 17) (i0 := 6) (z := 6) (by decide +kernel) (by decide +kernel) (by decide) (ps_arr (by decide +kernel)) (by decide) (fun _ => rfl) (ps_obj (by decide +kernel)) ⟨cq_1.1, cq_1.2.1⟩ (vp_in_nI (n := 1) (N := 6) (by decide) (by decide)) dX8_init_53 rfl ?_
  refine r_iinc (n := 57) (v := 2) (lv' := [(2, .int 2), (0, .ref (og_b g + 91)), (1, .ref (og_b g + 24))]) 0 dX8_init_54 rfl (by decide) (by decide) rfl rfl ?_
  refine r_goto (n := 35) dX8_init_57 (by decide) ?_
  refine r_iload_n (n := 36) 0 dX8_init_35 rfl rfl ?_
  refine r_iconst (n := 37) (v := 5) dX8_init_36 (by decide) rfl ?_
  refine r_icmp_gt (n := 40) (tgt := 60) dX8_init_37 (by decide) rfl (fun q => absurd q (by decide)) (fun _ => ?_)
  refine r_aload_n (n := 41) 1 dX8_init_40 rfl rfl ?_
  refine p_getR (n := 44) (x := 92) (m := 98) (a := 91) 1 (by decide +kernel) (by decide) cls_7 fi_7_1 (ps_obj (by decide +kernel)) gw_273 dX8_init_41 rfl ?_
  refine r_iload_n (n := 45) 0 dX8_init_44 rfl rfl ?_
  refine p_new (n := 48) (m := 98) (L' := [(99, 0), (99, 1), (99, 2), (92, 2), (92, 3), (92, 4), (92, 5), (1, 10), (1, 11), (1, 12), (1, 16)]) (mc := 11) (ms := 61) (by decide +kernel) (by decide +kernel) cls_1 ⟨gw_270, gw_157, gw_69⟩ dv_1 dX8_init_45 rfl ?_
  show ORuns g (d + 2) 11 61 iX8_init 48 [(2, .int 2), (0, .ref (og_b g + 91)), (1, .ref (og_b g + 24))] [.ref (og_b g + 99), .int 2, .ref (og_b g + 92)] (PS 99 [(99, 0), (99, 1), (99, 2), (92, 2), (92, 3), (92, 4), (92, 5), (1, 10), (1, 11), (1, 12), (1, 16)]) _
  refine r_dup (n := 49) dX8_init_48 rfl rfl ?_
  refine r_aload_n (n := 50) 2 dX8_init_49 rfl rfl ?_
  refine r_callI (n := 53) (a := 99) (mc' := 2) (ms' := 10) (mc := 9) (ms := 51) (As := [.ref (og_b g + 24)]) (rest := [.ref (og_b g + 99), .int 2, .ref (og_b g + 92)]) cm_X1_init gw_271 rfl (Nat.le_of_ble_eq_true rfl) dX8_init_50 rfl (ocall_mono (fun v h' e => ?_) (k_99))
  obtain ⟨rfl, rfl⟩ := e
  show ORuns g (d + 2) 9 51 iX8_init 53 [(2, .int 2), (0, .ref (og_b g + 91)), (1, .ref (og_b g + 24))] [.ref (og_b g + 99), .int 2, .ref (og_b g + 92)] (PS 101 [(92, 2), (92, 3), (92, 4), (92, 5), (1, 10), (1, 11), (1, 12), (1, 16)]) _
  refine p_aast (n := 54) (m := 101) (a := 92) (v := 99) (j := 2) (L' := [(92, 3), (92, 4), (92, 5), (1, 10), (1, 11), (1, 12), (1, 16)]) (t := 17) (i0 := 6) (z := 6) (by decide +kernel) (by decide +kernel) (by decide) (ps_arr (by decide +kernel)) (by decide) (fun _ => rfl) (ps_obj (by decide +kernel)) ⟨cq_1.1, cq_1.2.1⟩ (vp_in_nI (n := 2) (N := 6) (by decide) (by decide)) dX8_init_53 rfl ?_
  refine r_iinc (n := 57) (v := 3) (lv' := [(2, .int 3), (0, .ref (og_b g + 91)), (1, .ref (og_b g + 24))]) 0 dX8_init_54 rfl (by decide) (by decide) rfl rfl ?_
  refine r_goto (n := 35) dX8_init_57 (by decide) ?_
  refine r_iload_n (n := 36) 0 dX8_init_35 rfl rfl ?_
  refine r_iconst (n := 37) (v := 5) dX8_init_36 (by decide) rfl ?_
  refine r_icmp_gt (n := 40) (tgt := 60) dX8_init_37 (by decide) rfl (fun q => absurd q (by decide)) (fun _ => ?_)
  refine r_aload_n (n := 41) 1 dX8_init_40 rfl rfl ?_
  refine p_getR (n := 44) (x := 92) (m := 101) (a := 91) 1 (by decide +kernel) (by decide) cls_7 fi_7_1 (ps_obj (by decide +kernel)) gw_273 dX8_init_41 rfl ?_
  refine r_iload_n (n := 45) 0 dX8_init_44 rfl rfl ?_
  refine p_new (n := 48) (m := 101) (L' := [(102, 0), (102, 1), (102, 2), (92, 3), (92, 4), (92, 5), (1, 10), (1, 11), (1, 12), (1, 16)]) (mc := 8) (ms := 44) (by decide +kernel) (by decide +kernel) cls_1 ⟨gw_270, gw_157, gw_69⟩ dv_1 dX8_init_45 rfl ?_
  show ORuns g (d + 2) 8 44 iX8_init 48 [(2, .int 3), (0, .ref (og_b g + 91)), (1, .ref (og_b g + 24))] [.ref (og_b g + 102), .int 3, .ref (og_b g + 92)] (PS 102 [(102, 0), (102, 1), (102, 2), (92, 3), (92, 4), (92, 5), (1, 10), (1, 11), (1, 12), (1, 16)]) _
  refine r_dup (n := 49) dX8_init_48 rfl rfl ?_
  refine r_aload_n (n := 50) 2 dX8_init_49 rfl rfl ?_
  refine r_callI (n := 53) (a := 102) (mc' := 2) (ms' := 10) (mc := 6) (ms := 34) (As := [.ref (og_b g + 24)]) (rest := [.ref (og_b g + 102), .int 3, .ref (og_b g + 92)]) cm_X1_init gw_271 rfl (Nat.le_of_ble_eq_true rfl) dX8_init_50 rfl (ocall_mono (fun v h' e => ?_) (k_102))
  obtain ⟨rfl, rfl⟩ := e
  show ORuns g (d + 2) 6 34 iX8_init 53 [(2, .int 3), (0, .ref (og_b g + 91)), (1, .ref (og_b g + 24))] [.ref (og_b g + 102), .int 3, .ref (og_b g + 92)] (PS 104 [(92, 3), (92, 4), (92, 5), (1, 10), (1, 11), (1, 12), (1, 16)]) _
  refine p_aast (n := 54) (m := 104) (a := 92) (v := 102) (j := 3) (L' := [(92, 4), (92, 5), (1, 10), (1, 11), (1, 12), (1, 16)]) (t := 17) (i0 := 6) (z := 6) (by decide +kernel) (by decide +kernel) (by decide) (ps_arr (by decide +kernel)) (by decide) (fun _ => rfl) (ps_obj (by decide +kernel)) ⟨cq_1.1, cq_1.2.1⟩ (vp_in_nI (n := 3) (N := 6) (by decide) (by decide)) dX8_init_53 rfl ?_
  refine r_iinc (n := 57) (v := 4) (lv' := [(2, .int 4), (0, .ref (og_b g + 91)), (1, .ref (og_b g + 24))]) 0 dX8_init_54 rfl (by decide) (by decide) rfl rfl ?_
  refine r_goto (n := 35) dX8_init_57 (by decide) ?_
  refine r_iload_n (n := 36) 0 dX8_init_35 rfl rfl ?_
  refine r_iconst (n := 37) (v := 5) dX8_init_36 (by decide) rfl ?_
  refine r_icmp_gt (n := 40) (tgt := 60) dX8_init_37 (by decide) rfl (fun q => absurd q (by decide)) (fun _ => ?_)
  refine r_aload_n (n := 41) 1 dX8_init_40 rfl rfl ?_
  refine p_getR (n := 44) (x := 92) (m := 104) (a := 91) 1 (by decide +kernel) (by decide) cls_7 fi_7_1 (ps_obj (by decide +kernel)) gw_273 dX8_init_41 rfl ?_
  refine r_iload_n (n := 45) 0 dX8_init_44 rfl rfl ?_
  refine p_new (n := 48) (m := 104) (L' := [(105, 0), (105, 1), (105, 2), (92, 4), (92, 5), (1, 10), (1, 11), (1, 12), (1, 16)]) (mc := 5) (ms := 27) (by decide +kernel) (by decide +kernel) cls_1 ⟨gw_270, gw_157, gw_69⟩ dv_1 dX8_init_45 rfl ?_
  show ORuns g (d + 2) 5 27 iX8_init 48 [(2, .int 4), (0, .ref (og_b g + 91)), (1, .ref (og_b g + 24))] [.ref (og_b g + 105), .int 4, .ref (og_b g + 92)] (PS 105 [(105, 0), (105, 1), (105, 2), (92, 4), (92, 5), (1, 10), (1, 11), (1, 12), (1, 16)]) _
  refine r_dup (n := 49) dX8_init_48 rfl rfl ?_
  refine r_aload_n (n := 50) 2 dX8_init_49 rfl rfl ?_
  refine r_callI (n := 53) (a := 105) (mc' := 2) (ms' := 10) (mc := 3) (ms := 17) (As := [.ref (og_b g + 24)]) (rest := [.ref (og_b g + 105), .int 4, .ref (og_b g + 92)]) cm_X1_init gw_271 rfl (Nat.le_of_ble_eq_true rfl) dX8_init_50 rfl (ocall_mono (fun v h' e => ?_) (k_105))
  obtain ⟨rfl, rfl⟩ := e
  show ORuns g (d + 2) 3 17 iX8_init 53 [(2, .int 4), (0, .ref (og_b g + 91)), (1, .ref (og_b g + 24))] [.ref (og_b g + 105), .int 4, .ref (og_b g + 92)] (PS 107 [(92, 4), (92, 5), (1, 10), (1, 11), (1, 12), (1, 16)]) _
  refine p_aast (n := 54) (m := 107) (a := 92) (v := 105) (j := 4) (L' := [(92, 5), (1, 10), (1, 11), (1, 12), (1, 16)]) (t := 17) (i0 := 6) (z := 6) (by decide +kernel) (by decide +kernel) (by decide) (ps_arr (by decide +kernel)) (by decide) (fun _ => rfl) (ps_obj (by decide +kernel)) ⟨cq_1.1, cq_1.2.1⟩ (vp_in_nI (n := 4) (N := 6) (by decide) (by decide)) dX8_init_53 rfl ?_
  refine r_iinc (n := 57) (v := 5) (lv' := [(2, .int 5), (0, .ref (og_b g + 91)), (1, .ref (og_b g + 24))]) 0 dX8_init_54 rfl (by decide) (by decide) rfl rfl ?_
  refine r_goto (n := 35) dX8_init_57 (by decide) ?_
  refine r_iload_n (n := 36) 0 dX8_init_35 rfl rfl ?_
  refine r_iconst (n := 37) (v := 5) dX8_init_36 (by decide) rfl ?_
  refine r_icmp_gt (n := 40) (tgt := 60) dX8_init_37 (by decide) rfl (fun q => absurd q (by decide)) (fun _ => ?_)
  refine r_aload_n (n := 41) 1 dX8_init_40 rfl rfl ?_
  refine p_getR (n := 44) (x := 92) (m := 107) (a := 91) 1 (by decide +kernel) (by decide) cls_7 fi_7_1 (ps_obj (by decide +kernel)) gw_273 dX8_init_41 rfl ?_
  refine r_iload_n (n := 45) 0 dX8_init_44 rfl rfl ?_
  refine p_new (n := 48) (m := 107) (L' := [(108, 0), (108, 1), (108, 2), (92, 5), (1, 10), (1, 11), (1, 12), (1, 16)]) (mc := 2) (ms := 10) (by decide +kernel) (by decide +kernel) cls_1 ⟨gw_270, gw_157, gw_69⟩ dv_1 dX8_init_45 rfl ?_
  show ORuns g (d + 2) 2 10 iX8_init 48 [(2, .int 5), (0, .ref (og_b g + 91)), (1, .ref (og_b g + 24))] [.ref (og_b g + 108), .int 5, .ref (og_b g + 92)] (PS 108 [(108, 0), (108, 1), (108, 2), (92, 5), (1, 10), (1, 11), (1, 12), (1, 16)]) _
  refine r_dup (n := 49) dX8_init_48 rfl rfl ?_
  refine r_aload_n (n := 50) 2 dX8_init_49 rfl rfl ?_
  refine r_callI (n := 53) (a := 108) (mc' := 2) (ms' := 10) (mc := 0) (ms := 0) (As := [.ref (og_b g + 24)]) (rest := [.ref (og_b g + 108), .int 5, .ref (og_b g + 92)]) cm_X1_init gw_271 rfl (Nat.le_of_ble_eq_true rfl) dX8_init_50 rfl (ocall_mono (fun v h' e => ?_) (k_108))
  obtain ⟨rfl, rfl⟩ := e
  show ORuns g (d + 2) 0 0 iX8_init 53 [(2, .int 5), (0, .ref (og_b g + 91)), (1, .ref (og_b g + 24))] [.ref (og_b g + 108), .int 5, .ref (og_b g + 92)] (PS 110 [(92, 5), (1, 10), (1, 11), (1, 12), (1, 16)]) _
  refine p_aast (n := 54) (m := 110) (a := 92) (v := 108) (j := 5) (L' := [(1, 10), (1, 11), (1, 12), (1, 16)]) (t := 17) (i0 := 6) (z := 6) (by decide +kernel) (by decide +kernel) (by decide) (ps_arr (by decide +kernel)) (by decide) (fun _ => rfl) (ps_obj (by decide +kernel)) ⟨cq_1.1, cq_1.2.1⟩ (vp_in_nI (n := 5) (N := 6) (by decide) (by decide)) dX8_init_53 rfl ?_
  refine r_iinc (n := 57) (v := 6) (lv' := [(2, .int 6), (0, .ref (og_b g + 91)), (1, .ref (og_b g + 24))]) 0 dX8_init_54 rfl (by decide) (by decide) rfl rfl ?_
  refine r_goto (n := 35) dX8_init_57 (by decide) ?_
  refine r_iload_n (n := 36) 0 dX8_init_35 rfl rfl ?_
  refine r_iconst (n := 37) (v := 5) dX8_init_36 (by decide) rfl ?_
  refine r_icmp_gt (n := 40) (tgt := 60) dX8_init_37 (by decide) rfl (fun _ => ?_) (fun q => absurd (by decide) q)
  exact r_vret (st := []) dX8_init_60 rfl rfl
set_option maxRecDepth 20000 in
theorem k_113 {g : OG} {d : Nat} : OCall g (d + 1) 2 10 iX1_init [.ref (og_b g + 113), .ref (og_b g + 24)] (PS 113 [(113, 0), (113, 1), (113, 2), (112, 0), (112, 1), (112, 2), (112, 3), (112, 4), (1, 11), (1, 12), (1, 16)]) (QV (fun h' => h' = PS 115 [(112, 0), (112, 1), (112, 2), (112, 3), (112, 4), (1, 11), (1, 12), (1, 16)])) := by
  refine ocall_of (by decide) (Nat.le_of_ble_eq_true rfl) ?_
  show ORuns g (d + 1) 2 10 iX1_init 0 [(0, .ref (og_b g + 113)), (1, .ref (og_b g + 24))] [] (PS 113 [(113, 0), (113, 1), (113, 2), (112, 0), (112, 1), (112, 2), (112, 3), (112, 4), (1, 11), (1, 12), (1, 16)]) _
  refine r_aload_n (n := 1) 0 dX1_init_0 rfl rfl ?_
  refine r_objInit (n := 4) gw_161 ⟨gw_85, gw_86⟩ (Nat.le_of_ble_eq_true rfl) dX1_init_1 rfl ?_
  refine r_aload_n (n := 5) 0 dX1_init_4 rfl rfl ?_
  refine r_iconst (n := 6) (v := 5) dX1_init_5 (by decide) rfl ?_
  refine p_newarr (n := 8) (m := 113) (L' := [(113, 0), (113, 1), (113, 2), (112, 0), (112, 1), (112, 2), (112, 3), (112, 4), (1, 11), (1, 12), (1, 16)]) (t := 11) (i0 := 0) (fty := .int) (z := 5) (Z := 5) (mc := 1) (ms := 5) (by decide +kernel) (by decide +kernel) rfl (by decide) (fun _ => rfl) rfl na_int gw_105 (by decide) dX1_init_6 rfl ?_
  show ORuns g (d + 1) 1 5 iX1_init 8 [(0, .ref (og_b g + 113)), (1, .ref (og_b g + 24))] [.ref (og_b g + 114), .ref (og_b g + 113)] (PS 114 [(113, 0), (113, 1), (113, 2), (112, 0), (112, 1), (112, 2), (112, 3), (112, 4), (1, 11), (1, 12), (1, 16)]) _
  refine p_putR (n := 11) (v := 114) (m := 114) (a := 113) (L' := [(113, 0), (113, 2), (112, 0), (112, 1), (112, 2), (112, 3), (112, 4), (1, 11), (1, 12), (1, 16)]) 1 (by decide) (by decide +kernel) (by decide +kernel) cls_1 fi_1_1 (Or.inr ⟨rfl, rfl, rfl⟩) (fun _ => ⟨rfl, rfl⟩) (ps_obj (by decide +kernel)) gw_163 dX1_init_8 rfl ?_
  refine r_aload_n (n := 12) 0 dX1_init_11 rfl rfl ?_
  refine r_iconst (n := 13) (v := 5) dX1_init_12 (by decide) rfl ?_
  refine p_newarr (n := 15) (m := 114) (L' := [(113, 0), (113, 2), (112, 0), (112, 1), (112, 2), (112, 3), (112, 4), (1, 11), (1, 12), (1, 16)]) (t := 11) (i0 := 0) (fty := .int) (z := 5) (Z := 5) (mc := 0) (ms := 0) (by decide +kernel) (by decide +kernel) rfl (by decide) (fun _ => rfl) rfl na_int gw_105 (by decide) dX1_init_13 rfl ?_
  show ORuns g (d + 1) 0 0 iX1_init 15 [(0, .ref (og_b g + 113)), (1, .ref (og_b g + 24))] [.ref (og_b g + 115), .ref (og_b g + 113)] (PS 115 [(113, 0), (113, 2), (112, 0), (112, 1), (112, 2), (112, 3), (112, 4), (1, 11), (1, 12), (1, 16)]) _
  refine p_putR (n := 18) (v := 115) (m := 115) (a := 113) (L' := [(113, 0), (112, 0), (112, 1), (112, 2), (112, 3), (112, 4), (1, 11), (1, 12), (1, 16)]) 2 (by decide) (by decide +kernel) (by decide +kernel) cls_1 fi_1_2 (Or.inr ⟨rfl, rfl, rfl⟩) (fun _ => ⟨rfl, rfl⟩) (ps_obj (by decide +kernel)) gw_164 dX1_init_15 rfl ?_
  refine r_aload_n (n := 19) 0 dX1_init_18 rfl rfl ?_
  refine r_iconst (n := 20) (v := 0) dX1_init_19 (by decide) rfl ?_
  refine p_putI (n := 23) (m := 115) (a := 113) (L' := [(113, 0), (112, 0), (112, 1), (112, 2), (112, 3), (112, 4), (1, 11), (1, 12), (1, 16)]) 3 (by decide +kernel) (by decide +kernel) cls_1 fp_1_3 (ps_obj (by decide +kernel)) gw_165 dX1_init_20 rfl ?_
  refine r_aload_n (n := 24) 0 dX1_init_23 rfl rfl ?_
  refine r_iconst (n := 25) (v := 0) dX1_init_24 (by decide) rfl ?_
  refine p_putI (n := 28) (m := 115) (a := 113) (L' := [(113, 0), (112, 0), (112, 1), (112, 2), (112, 3), (112, 4), (1, 11), (1, 12), (1, 16)]) 4 (by decide +kernel) (by decide +kernel) cls_1 fp_1_4 (ps_obj (by decide +kernel)) gw_169 dX1_init_25 rfl ?_
  refine r_aload_n (n := 29) 0 dX1_init_28 rfl rfl ?_
  refine r_iconst (n := 30) (v := 0) dX1_init_29 (by decide) rfl ?_
  refine p_putZ (n := 33) (m := 115) (a := 113) (L' := [(113, 0), (112, 0), (112, 1), (112, 2), (112, 3), (112, 4), (1, 11), (1, 12), (1, 16)]) 5 (by decide) (by decide +kernel) (by decide +kernel) cls_1 fp_1_5 (ps_obj (by decide +kernel)) gw_171 dX1_init_30 rfl ?_
  refine r_aload_n (n := 34) 0 dX1_init_33 rfl rfl ?_
  refine r_iconst (n := 35) (v := 0) dX1_init_34 (by decide) rfl ?_
  refine p_putZ (n := 38) (m := 115) (a := 113) (L' := [(113, 0), (112, 0), (112, 1), (112, 2), (112, 3), (112, 4), (1, 11), (1, 12), (1, 16)]) 6 (by decide) (by decide +kernel) (by decide +kernel) cls_1 fp_1_6 (ps_obj (by decide +kernel)) gw_173 dX1_init_35 rfl ?_
  refine r_aload_n (n := 39) 0 dX1_init_38 rfl rfl ?_
  refine r_aload_n (n := 40) 1 dX1_init_39 rfl rfl ?_
  refine p_putR (n := 43) (v := 24) (m := 115) (a := 113) (L' := [(112, 0), (112, 1), (112, 2), (112, 3), (112, 4), (1, 11), (1, 12), (1, 16)]) 0 (by decide) (by decide +kernel) (by decide +kernel) cls_1 fi_1_0 (Or.inr ⟨rfl, rfl, rfl⟩) (fun _ => ⟨rfl, rfl⟩) (ps_obj (by decide +kernel)) gw_162 dX1_init_40 rfl ?_
  exact r_vret (st := []) dX1_init_43 rfl rfl
set_option maxRecDepth 20000 in
theorem k_116 {g : OG} {d : Nat} : OCall g (d + 1) 2 10 iX1_init [.ref (og_b g + 116), .ref (og_b g + 24)] (PS 116 [(116, 0), (116, 1), (116, 2), (112, 1), (112, 2), (112, 3), (112, 4), (1, 11), (1, 12), (1, 16)]) (QV (fun h' => h' = PS 118 [(112, 1), (112, 2), (112, 3), (112, 4), (1, 11), (1, 12), (1, 16)])) := by
  refine ocall_of (by decide) (Nat.le_of_ble_eq_true rfl) ?_
  show ORuns g (d + 1) 2 10 iX1_init 0 [(0, .ref (og_b g + 116)), (1, .ref (og_b g + 24))] [] (PS 116 [(116, 0), (116, 1), (116, 2), (112, 1), (112, 2), (112, 3), (112, 4), (1, 11), (1, 12), (1, 16)]) _
  refine r_aload_n (n := 1) 0 dX1_init_0 rfl rfl ?_
  refine r_objInit (n := 4) gw_161 ⟨gw_85, gw_86⟩ (Nat.le_of_ble_eq_true rfl) dX1_init_1 rfl ?_
  refine r_aload_n (n := 5) 0 dX1_init_4 rfl rfl ?_
  refine r_iconst (n := 6) (v := 5) dX1_init_5 (by decide) rfl ?_
  refine p_newarr (n := 8) (m := 116) (L' := [(116, 0), (116, 1), (116, 2), (112, 1), (112, 2), (112, 3), (112, 4), (1, 11), (1, 12), (1, 16)]) (t := 11) (i0 := 0) (fty := .int) (z := 5) (Z := 5) (mc := 1) (ms := 5) (by decide +kernel) (by decide +kernel) rfl (by decide) (fun _ => rfl) rfl na_int gw_105 (by decide) dX1_init_6 rfl ?_
  show ORuns g (d + 1) 1 5 iX1_init 8 [(0, .ref (og_b g + 116)), (1, .ref (og_b g + 24))] [.ref (og_b g + 117), .ref (og_b g + 116)] (PS 117 [(116, 0), (116, 1), (116, 2), (112, 1), (112, 2), (112, 3), (112, 4), (1, 11), (1, 12), (1, 16)]) _
  refine p_putR (n := 11) (v := 117) (m := 117) (a := 116) (L' := [(116, 0), (116, 2), (112, 1), (112, 2), (112, 3), (112, 4), (1, 11), (1, 12), (1, 16)]) 1 (by decide) (by decide +kernel) (by decide +kernel) cls_1 fi_1_1 (Or.inr ⟨rfl, rfl, rfl⟩) (fun _ => ⟨rfl, rfl⟩) (ps_obj (by decide +kernel)) gw_163 dX1_init_8 rfl ?_
  refine r_aload_n (n := 12) 0 dX1_init_11 rfl rfl ?_
  refine r_iconst (n := 13) (v := 5) dX1_init_12 (by decide) rfl ?_
  refine p_newarr (n := 15) (m := 117) (L' := [(116, 0), (116, 2), (112, 1), (112, 2), (112, 3), (112, 4), (1, 11), (1, 12), (1, 16)]) (t := 11) (i0 := 0) (fty := .int) (z := 5) (Z := 5) (mc := 0) (ms := 0) (by decide +kernel) (by decide +kernel) rfl (by decide) (fun _ => rfl) rfl na_int gw_105 (by decide) dX1_init_13 rfl ?_
  show ORuns g (d + 1) 0 0 iX1_init 15 [(0, .ref (og_b g + 116)), (1, .ref (og_b g + 24))] [.ref (og_b g + 118), .ref (og_b g + 116)] (PS 118 [(116, 0), (116, 2), (112, 1), (112, 2), (112, 3), (112, 4), (1, 11), (1, 12), (1, 16)]) _
  refine p_putR (n := 18) (v := 118) (m := 118) (a := 116) (L' := [(116, 0), (112, 1), (112, 2), (112, 3), (112, 4), (1, 11), (1, 12), (1, 16)]) 2 (by decide) (by decide +kernel) (by decide +kernel) cls_1 fi_1_2 (Or.inr ⟨rfl, rfl, rfl⟩) (fun _ => ⟨rfl, rfl⟩) (ps_obj (by decide +kernel)) gw_164 dX1_init_15 rfl ?_
  refine r_aload_n (n := 19) 0 dX1_init_18 rfl rfl ?_
  refine r_iconst (n := 20) (v := 0) dX1_init_19 (by decide) rfl ?_
  refine p_putI (n := 23) (m := 118) (a := 116) (L' := [(116, 0), (112, 1), (112, 2), (112, 3), (112, 4), (1, 11), (1, 12), (1, 16)]) 3 (by decide +kernel) (by decide +kernel) cls_1 fp_1_3 (ps_obj (by decide +kernel)) gw_165 dX1_init_20 rfl ?_
  refine r_aload_n (n := 24) 0 dX1_init_23 rfl rfl ?_
  refine r_iconst (n := 25) (v := 0) dX1_init_24 (by decide) rfl ?_
  refine p_putI (n := 28) (m := 118) (a := 116) (L' := [(116, 0), (112, 1), (112, 2), (112, 3), (112, 4), (1, 11), (1, 12), (1, 16)]) 4 (by decide +kernel) (by decide +kernel) cls_1 fp_1_4 (ps_obj (by decide +kernel)) gw_169 dX1_init_25 rfl ?_
  refine r_aload_n (n := 29) 0 dX1_init_28 rfl rfl ?_
  refine r_iconst (n := 30) (v := 0) dX1_init_29 (by decide) rfl ?_
  refine p_putZ (n := 33) (m := 118) (a := 116) (L' := [(116, 0), (112, 1), (112, 2), (112, 3), (112, 4), (1, 11), (1, 12), (1, 16)]) 5 (by decide) (by decide +kernel) (by decide +kernel) cls_1 fp_1_5 (ps_obj (by decide +kernel)) gw_171 dX1_init_30 rfl ?_
  refine r_aload_n (n := 34) 0 dX1_init_33 rfl rfl ?_
  refine r_iconst (n := 35) (v := 0) dX1_init_34 (by decide) rfl ?_
  refine p_putZ (n := 38) (m := 118) (a := 116) (L' := [(116, 0), (112, 1), (112, 2), (112, 3), (112, 4), (1, 11), (1, 12), (1, 16)]) 6 (by decide) (by decide +kernel) (by decide +kernel) cls_1 fp_1_6 (ps_obj (by decide +kernel)) gw_173 dX1_init_35 rfl ?_
  refine r_aload_n (n := 39) 0 dX1_init_38 rfl rfl ?_
  refine r_aload_n (n := 40) 1 dX1_init_39 rfl rfl ?_
  refine p_putR (n := 43) (v := 24) (m := 118) (a := 116) (L' := [(112, 1), (112, 2), (112, 3), (112, 4), (1, 11), (1, 12), (1, 16)]) 0 (by decide) (by decide +kernel) (by decide +kernel) cls_1 fi_1_0 (Or.inr ⟨rfl, rfl, rfl⟩) (fun _ => ⟨rfl, rfl⟩) (ps_obj (by decide +kernel)) gw_162 dX1_init_40 rfl ?_
  exact r_vret (st := []) dX1_init_43 rfl rfl
set_option maxRecDepth 20000 in
theorem k_119 {g : OG} {d : Nat} : OCall g (d + 1) 2 10 iX1_init [.ref (og_b g + 119), .ref (og_b g + 24)] (PS 119 [(119, 0), (119, 1), (119, 2), (112, 2), (112, 3), (112, 4), (1, 11), (1, 12), (1, 16)]) (QV (fun h' => h' = PS 121 [(112, 2), (112, 3), (112, 4), (1, 11), (1, 12), (1, 16)])) := by
  refine ocall_of (by decide) (Nat.le_of_ble_eq_true rfl) ?_
  show ORuns g (d + 1) 2 10 iX1_init 0 [(0, .ref (og_b g + 119)), (1, .ref (og_b g + 24))] [] (PS 119 [(119, 0), (119, 1), (119, 2), (112, 2), (112, 3), (112, 4), (1, 11), (1, 12), (1, 16)]) _
  refine r_aload_n (n := 1) 0 dX1_init_0 rfl rfl ?_
  refine r_objInit (n := 4) gw_161 ⟨gw_85, gw_86⟩ (Nat.le_of_ble_eq_true rfl) dX1_init_1 rfl ?_
  refine r_aload_n (n := 5) 0 dX1_init_4 rfl rfl ?_
  refine r_iconst (n := 6) (v := 5) dX1_init_5 (by decide) rfl ?_
  refine p_newarr (n := 8) (m := 119) (L' := [(119, 0), (119, 1), (119, 2), (112, 2), (112, 3), (112, 4), (1, 11), (1, 12), (1, 16)]) (t := 11) (i0 := 0) (fty := .int) (z := 5) (Z := 5) (mc := 1) (ms := 5) (by decide +kernel) (by decide +kernel) rfl (by decide) (fun _ => rfl) rfl na_int gw_105 (by decide) dX1_init_6 rfl ?_
  show ORuns g (d + 1) 1 5 iX1_init 8 [(0, .ref (og_b g + 119)), (1, .ref (og_b g + 24))] [.ref (og_b g + 120), .ref (og_b g + 119)] (PS 120 [(119, 0), (119, 1), (119, 2), (112, 2), (112, 3), (112, 4), (1, 11), (1, 12), (1, 16)]) _
  refine p_putR (n := 11) (v := 120) (m := 120) (a := 119) (L' := [(119, 0), (119, 2), (112, 2), (112, 3), (112, 4), (1, 11), (1, 12), (1, 16)]) 1 (by decide) (by decide +kernel) (by decide +kernel) cls_1 fi_1_1 (Or.inr ⟨rfl, rfl, rfl⟩) (fun _ => ⟨rfl, rfl⟩) (ps_obj (by decide +kernel)) gw_163 dX1_init_8 rfl ?_
  refine r_aload_n (n := 12) 0 dX1_init_11 rfl rfl ?_
  refine r_iconst (n := 13) (v := 5) dX1_init_12 (by decide) rfl ?_
  refine p_newarr (n := 15) (m := 120) (L' := [(119, 0), (119, 2), (112, 2), (112, 3), (112, 4), (1, 11), (1, 12), (1, 16)]) (t := 11) (i0 := 0) (fty := .int) (z := 5) (Z := 5) (mc := 0) (ms := 0) (by decide +kernel) (by decide +kernel) rfl (by decide) (fun _ => rfl) rfl na_int gw_105 (by decide) dX1_init_13 rfl ?_
  show ORuns g (d + 1) 0 0 iX1_init 15 [(0, .ref (og_b g + 119)), (1, .ref (og_b g + 24))] [.ref (og_b g + 121), .ref (og_b g + 119)] (PS 121 [(119, 0), (119, 2), (112, 2), (112, 3), (112, 4), (1, 11), (1, 12), (1, 16)]) _
  refine p_putR (n := 18) (v := 121) (m := 121) (a := 119) (L' := [(119, 0), (112, 2), (112, 3), (112, 4), (1, 11), (1, 12), (1, 16)]) 2 (by decide) (by decide +kernel) (by decide +kernel) cls_1 fi_1_2 (Or.inr ⟨rfl, rfl, rfl⟩) (fun _ => ⟨rfl, rfl⟩) (ps_obj (by decide +kernel)) gw_164 dX1_init_15 rfl ?_
  refine r_aload_n (n := 19) 0 dX1_init_18 rfl rfl ?_
  refine r_iconst (n := 20) (v := 0) dX1_init_19 (by decide) rfl ?_
  refine p_putI (n := 23) (m := 121) (a := 119) (L' := [(119, 0), (112, 2), (112, 3), (112, 4), (1, 11), (1, 12), (1, 16)]) 3 (by decide +kernel) (by decide +kernel) cls_1 fp_1_3 (ps_obj (by decide +kernel)) gw_165 dX1_init_20 rfl ?_
  refine r_aload_n (n := 24) 0 dX1_init_23 rfl rfl ?_
  refine r_iconst (n := 25) (v := 0) dX1_init_24 (by decide) rfl ?_
  refine p_putI (n := 28) (m := 121) (a := 119) (L' := [(119, 0), (112, 2), (112, 3), (112, 4), (1, 11), (1, 12), (1, 16)]) 4 (by decide +kernel) (by decide +kernel) cls_1 fp_1_4 (ps_obj (by decide +kernel)) gw_169 dX1_init_25 rfl ?_
  refine r_aload_n (n := 29) 0 dX1_init_28 rfl rfl ?_
  refine r_iconst (n := 30) (v := 0) dX1_init_29 (by decide) rfl ?_
  refine p_putZ (n := 33) (m := 121) (a := 119) (L' := [(119, 0), (112, 2), (112, 3), (112, 4), (1, 11), (1, 12), (1, 16)]) 5 (by decide) (by decide +kernel) (by decide +kernel) cls_1 fp_1_5 (ps_obj (by decide +kernel)) gw_171 dX1_init_30 rfl ?_
  refine r_aload_n (n := 34) 0 dX1_init_33 rfl rfl ?_
  refine r_iconst (n := 35) (v := 0) dX1_init_34 (by decide) rfl ?_
  refine p_putZ (n := 38) (m := 121) (a := 119) (L' := [(119, 0), (112, 2), (112, 3), (112, 4), (1, 11), (1, 12), (1, 16)]) 6 (by decide) (by decide +kernel) (by decide +kernel) cls_1 fp_1_6 (ps_obj (by decide +kernel)) gw_173 dX1_init_35 rfl ?_
  refine r_aload_n (n := 39) 0 dX1_init_38 rfl rfl ?_
  refine r_aload_n (n := 40) 1 dX1_init_39 rfl rfl ?_
  refine p_putR (n := 43) (v := 24) (m := 121) (a := 119) (L' := [(112, 2), (112, 3), (112, 4), (1, 11), (1, 12), (1, 16)]) 0 (by decide) (by decide +kernel) (by decide +kernel) cls_1 fi_1_0 (Or.inr ⟨rfl, rfl, rfl⟩) (fun _ => ⟨rfl, rfl⟩) (ps_obj (by decide +kernel)) gw_162 dX1_init_40 rfl ?_
  exact r_vret (st := []) dX1_init_43 rfl rfl
set_option maxRecDepth 20000 in
theorem k_122 {g : OG} {d : Nat} : OCall g (d + 1) 2 10 iX1_init [.ref (og_b g + 122), .ref (og_b g + 24)] (PS 122 [(122, 0), (122, 1), (122, 2), (112, 3), (112, 4), (1, 11), (1, 12), (1, 16)]) (QV (fun h' => h' = PS 124 [(112, 3), (112, 4), (1, 11), (1, 12), (1, 16)])) := by
  refine ocall_of (by decide) (Nat.le_of_ble_eq_true rfl) ?_
  show ORuns g (d + 1) 2 10 iX1_init 0 [(0, .ref (og_b g + 122)), (1, .ref (og_b g + 24))] [] (PS 122 [(122, 0), (122, 1), (122, 2), (112, 3), (112, 4), (1, 11), (1, 12), (1, 16)]) _
  refine r_aload_n (n := 1) 0 dX1_init_0 rfl rfl ?_
  refine r_objInit (n := 4) gw_161 ⟨gw_85, gw_86⟩ (Nat.le_of_ble_eq_true rfl) dX1_init_1 rfl ?_
  refine r_aload_n (n := 5) 0 dX1_init_4 rfl rfl ?_
  refine r_iconst (n := 6) (v := 5) dX1_init_5 (by decide) rfl ?_
  refine p_newarr (n := 8) (m := 122) (L' := [(122, 0), (122, 1), (122, 2), (112, 3), (112, 4), (1, 11), (1, 12), (1, 16)]) (t := 11) (i0 := 0) (fty := .int) (z := 5) (Z := 5) (mc := 1) (ms := 5) (by decide +kernel) (by decide +kernel) rfl (by decide) (fun _ => rfl) rfl na_int gw_105 (by decide) dX1_init_6 rfl ?_
  show ORuns g (d + 1) 1 5 iX1_init 8 [(0, .ref (og_b g + 122)), (1, .ref (og_b g + 24))] [.ref (og_b g + 123), .ref (og_b g + 122)] (PS 123 [(122, 0), (122, 1), (122, 2), (112, 3), (112, 4), (1, 11), (1, 12), (1, 16)]) _
  refine p_putR (n := 11) (v := 123) (m := 123) (a := 122) (L' := [(122, 0), (122, 2), (112, 3), (112, 4), (1, 11), (1, 12), (1, 16)]) 1 (by decide) (by decide +kernel) (by decide +kernel) cls_1 fi_1_1 (Or.inr ⟨rfl, rfl, rfl⟩) (fun _ => ⟨rfl, rfl⟩) (ps_obj (by decide +kernel)) gw_163 dX1_init_8 rfl ?_
  refine r_aload_n (n := 12) 0 dX1_init_11 rfl rfl ?_
  refine r_iconst (n := 13) (v := 5) dX1_init_12 (by decide) rfl ?_
  refine p_newarr (n := 15) (m := 123) (L' := [(122, 0), (122, 2), (112, 3), (112, 4), (1, 11), (1, 12), (1, 16)]) (t := 11) (i0 := 0) (fty := .int) (z := 5) (Z := 5) (mc := 0) (ms := 0) (by decide +kernel) (by decide +kernel) rfl (by decide) (fun _ => rfl) rfl na_int gw_105 (by decide) dX1_init_13 rfl ?_
  show ORuns g (d + 1) 0 0 iX1_init 15 [(0, .ref (og_b g + 122)), (1, .ref (og_b g + 24))] [.ref (og_b g + 124), .ref (og_b g + 122)] (PS 124 [(122, 0), (122, 2), (112, 3), (112, 4), (1, 11), (1, 12), (1, 16)]) _
  refine p_putR (n := 18) (v := 124) (m := 124) (a := 122) (L' := [(122, 0), (112, 3), (112, 4), (1, 11), (1, 12), (1, 16)]) 2 (by decide) (by decide +kernel) (by decide +kernel) cls_1 fi_1_2 (Or.inr ⟨rfl, rfl, rfl⟩) (fun _ => ⟨rfl, rfl⟩) (ps_obj (by decide +kernel)) gw_164 dX1_init_15 rfl ?_
  refine r_aload_n (n := 19) 0 dX1_init_18 rfl rfl ?_
  refine r_iconst (n := 20) (v := 0) dX1_init_19 (by decide) rfl ?_
  refine p_putI (n := 23) (m := 124) (a := 122) (L' := [(122, 0), (112, 3), (112, 4), (1, 11), (1, 12), (1, 16)]) 3 (by decide +kernel) (by decide +kernel) cls_1 fp_1_3 (ps_obj (by decide +kernel)) gw_165 dX1_init_20 rfl ?_
  refine r_aload_n (n := 24) 0 dX1_init_23 rfl rfl ?_
  refine r_iconst (n := 25) (v := 0) dX1_init_24 (by decide) rfl ?_
  refine p_putI (n := 28) (m := 124) (a := 122) (L' := [(122, 0), (112, 3), (112, 4), (1, 11), (1, 12), (1, 16)]) 4 (by decide +kernel) (by decide +kernel) cls_1 fp_1_4 (ps_obj (by decide +kernel)) gw_169 dX1_init_25 rfl ?_
  refine r_aload_n (n := 29) 0 dX1_init_28 rfl rfl ?_
  refine r_iconst (n := 30) (v := 0) dX1_init_29 (by decide) rfl ?_
  refine p_putZ (n := 33) (m := 124) (a := 122) (L' := [(122, 0), (112, 3), (112, 4), (1, 11), (1, 12), (1, 16)]) 5 (by decide) (by decide +kernel) (by decide +kernel) cls_1 fp_1_5 (ps_obj (by decide +kernel)) gw_171 dX1_init_30 rfl ?_
  refine r_aload_n (n := 34) 0 dX1_init_33 rfl rfl ?_
  refine r_iconst (n := 35) (v := 0) dX1_init_34 (by decide) rfl ?_
  refine p_putZ (n := 38) (m := 124) (a := 122) (L' := [(122, 0), (112, 3), (112, 4), (1, 11), (1, 12), (1, 16)]) 6 (by decide) (by decide +kernel) (by decide +kernel) cls_1 fp_1_6 (ps_obj (by decide +kernel)) gw_173 dX1_init_35 rfl ?_
  refine r_aload_n (n := 39) 0 dX1_init_38 rfl rfl ?_
  refine r_aload_n (n := 40) 1 dX1_init_39 rfl rfl ?_
  refine p_putR (n := 43) (v := 24) (m := 124) (a := 122) (L' := [(112, 3), (112, 4), (1, 11), (1, 12), (1, 16)]) 0 (by decide) (by decide +kernel) (by decide +kernel) cls_1 fi_1_0 (Or.inr ⟨rfl, rfl, rfl⟩) (fun _ => ⟨rfl, rfl⟩) (ps_obj (by decide +kernel)) gw_162 dX1_init_40 rfl ?_
  exact r_vret (st := []) dX1_init_43 rfl rfl
set_option maxRecDepth 20000 in
theorem k_125 {g : OG} {d : Nat} : OCall g (d + 1) 2 10 iX1_init [.ref (og_b g + 125), .ref (og_b g + 24)] (PS 125 [(125, 0), (125, 1), (125, 2), (112, 4), (1, 11), (1, 12), (1, 16)]) (QV (fun h' => h' = PS 127 [(112, 4), (1, 11), (1, 12), (1, 16)])) := by
  refine ocall_of (by decide) (Nat.le_of_ble_eq_true rfl) ?_
  show ORuns g (d + 1) 2 10 iX1_init 0 [(0, .ref (og_b g + 125)), (1, .ref (og_b g + 24))] [] (PS 125 [(125, 0), (125, 1), (125, 2), (112, 4), (1, 11), (1, 12), (1, 16)]) _
  refine r_aload_n (n := 1) 0 dX1_init_0 rfl rfl ?_
  refine r_objInit (n := 4) gw_161 ⟨gw_85, gw_86⟩ (Nat.le_of_ble_eq_true rfl) dX1_init_1 rfl ?_
  refine r_aload_n (n := 5) 0 dX1_init_4 rfl rfl ?_
  refine r_iconst (n := 6) (v := 5) dX1_init_5 (by decide) rfl ?_
  refine p_newarr (n := 8) (m := 125) (L' := [(125, 0), (125, 1), (125, 2), (112, 4), (1, 11), (1, 12), (1, 16)]) (t := 11) (i0 := 0) (fty := .int) (z := 5) (Z := 5) (mc := 1) (ms := 5) (by decide +kernel) (by decide +kernel) rfl (by decide) (fun _ => rfl) rfl na_int gw_105 (by decide) dX1_init_6 rfl ?_
  show ORuns g (d + 1) 1 5 iX1_init 8 [(0, .ref (og_b g + 125)), (1, .ref (og_b g + 24))] [.ref (og_b g + 126), .ref (og_b g + 125)] (PS 126 [(125, 0), (125, 1), (125, 2), (112, 4), (1, 11), (1, 12), (1, 16)]) _
  refine p_putR (n := 11) (v := 126) (m := 126) (a := 125) (L' := [(125, 0), (125, 2), (112, 4), (1, 11), (1, 12), (1, 16)]) 1 (by decide) (by decide +kernel) (by decide +kernel) cls_1 fi_1_1 (Or.inr ⟨rfl, rfl, rfl⟩) (fun _ => ⟨rfl, rfl⟩) (ps_obj (by decide +kernel)) gw_163 dX1_init_8 rfl ?_
  refine r_aload_n (n := 12) 0 dX1_init_11 rfl rfl ?_
  refine r_iconst (n := 13) (v := 5) dX1_init_12 (by decide) rfl ?_
  refine p_newarr (n := 15) (m := 126) (L' := [(125, 0), (125, 2), (112, 4), (1, 11), (1, 12), (1, 16)]) (t := 11) (i0 := 0) (fty := .int) (z := 5) (Z := 5) (mc := 0) (ms := 0) (by decide +kernel) (by decide +kernel) rfl (by decide) (fun _ => rfl) rfl na_int gw_105 (by decide) dX1_init_13 rfl ?_
  show ORuns g (d + 1) 0 0 iX1_init 15 [(0, .ref (og_b g + 125)), (1, .ref (og_b g + 24))] [.ref (og_b g + 127), .ref (og_b g + 125)] (PS 127 [(125, 0), (125, 2), (112, 4), (1, 11), (1, 12), (1, 16)]) _
  refine p_putR (n := 18) (v := 127) (m := 127) (a := 125) (L' := [(125, 0), (112, 4), (1, 11), (1, 12), (1, 16)]) 2 (by decide) (by decide +kernel) (by decide +kernel) cls_1 fi_1_2 (Or.inr ⟨rfl, rfl, rfl⟩) (fun _ => ⟨rfl, rfl⟩) (ps_obj (by decide +kernel)) gw_164 dX1_init_15 rfl ?_
  refine r_aload_n (n := 19) 0 dX1_init_18 rfl rfl ?_
  refine r_iconst (n := 20) (v := 0) dX1_init_19 (by decide) rfl ?_
  refine p_putI (n := 23) (m := 127) (a := 125) (L' := [(125, 0), (112, 4), (1, 11), (1, 12), (1, 16)]) 3 (by decide +kernel) (by decide +kernel) cls_1 fp_1_3 (ps_obj (by decide +kernel)) gw_165 dX1_init_20 rfl ?_
  refine r_aload_n (n := 24) 0 dX1_init_23 rfl rfl ?_
  refine r_iconst (n := 25) (v := 0) dX1_init_24 (by decide) rfl ?_
  refine p_putI (n := 28) (m := 127) (a := 125) (L' := [(125, 0), (112, 4), (1, 11), (1, 12), (1, 16)]) 4 (by decide +kernel) (by decide +kernel) cls_1 fp_1_4 (ps_obj (by decide +kernel)) gw_169 dX1_init_25 rfl ?_
  refine r_aload_n (n := 29) 0 dX1_init_28 rfl rfl ?_
  refine r_iconst (n := 30) (v := 0) dX1_init_29 (by decide) rfl ?_
  refine p_putZ (n := 33) (m := 127) (a := 125) (L' := [(125, 0), (112, 4), (1, 11), (1, 12), (1, 16)]) 5 (by decide) (by decide +kernel) (by decide +kernel) cls_1 fp_1_5 (ps_obj (by decide +kernel)) gw_171 dX1_init_30 rfl ?_
  refine r_aload_n (n := 34) 0 dX1_init_33 rfl rfl ?_
  refine r_iconst (n := 35) (v := 0) dX1_init_34 (by decide) rfl ?_
  refine p_putZ (n := 38) (m := 127) (a := 125) (L' := [(125, 0), (112, 4), (1, 11), (1, 12), (1, 16)]) 6 (by decide) (by decide +kernel) (by decide +kernel) cls_1 fp_1_6 (ps_obj (by decide +kernel)) gw_173 dX1_init_35 rfl ?_
  refine r_aload_n (n := 39) 0 dX1_init_38 rfl rfl ?_
  refine r_aload_n (n := 40) 1 dX1_init_39 rfl rfl ?_
  refine p_putR (n := 43) (v := 24) (m := 127) (a := 125) (L' := [(112, 4), (1, 11), (1, 12), (1, 16)]) 0 (by decide) (by decide +kernel) (by decide +kernel) cls_1 fi_1_0 (Or.inr ⟨rfl, rfl, rfl⟩) (fun _ => ⟨rfl, rfl⟩) (ps_obj (by decide +kernel)) gw_162 dX1_init_40 rfl ?_
  exact r_vret (st := []) dX1_init_43 rfl rfl
set_option maxRecDepth 20000 in
theorem k_111 {g : OG} {d : Nat} : OCall g (d + 2) 16 90 iX4_init [.ref (og_b g + 111), .ref (og_b g + 24)] (PS 111 [(111, 0), (111, 5), (1, 11), (1, 12), (1, 16)]) (QV (fun h' => h' = PS 127 [(1, 11), (1, 12), (1, 16)])) := by
  refine ocall_of (by decide) (Nat.le_of_ble_eq_true rfl) ?_
  show ORuns g (d + 2) 16 90 iX4_init 0 [(0, .ref (og_b g + 111)), (1, .ref (og_b g + 24))] [] (PS 111 [(111, 0), (111, 5), (1, 11), (1, 12), (1, 16)]) _
  refine r_aload_n (n := 1) 0 dX4_init_0 rfl rfl ?_
  refine r_objInit (n := 4) gw_295 ⟨gw_85, gw_86⟩ (Nat.le_of_ble_eq_true rfl) dX4_init_1 rfl ?_
  refine r_aload_n (n := 5) 0 dX4_init_4 rfl rfl ?_
  refine r_iconst (n := 6) (v := 5) dX4_init_5 (by decide) rfl ?_
  refine p_anew (n := 9) (m := 111) (L' := [(112, 0), (112, 1), (112, 2), (112, 3), (112, 4), (111, 0), (111, 5), (1, 11), (1, 12), (1, 16)]) (t := 17) (i0 := 6) (z := 5) (Z := 5) (mc := 15) (ms := 85) (by decide +kernel) (by decide +kernel) (by decide) (fun _ => rfl) gw_296 (fun _ h => h.2.2.1.2.2.2) (by decide) dX4_init_6 rfl ?_
  show ORuns g (d + 2) 15 85 iX4_init 9 [(0, .ref (og_b g + 111)), (1, .ref (og_b g + 24))] [.ref (og_b g + 112), .ref (og_b g + 111)] (PS 112 [(112, 0), (112, 1), (112, 2), (112, 3), (112, 4), (111, 0), (111, 5), (1, 11), (1, 12), (1, 16)]) _
  refine p_putR (n := 12) (v := 112) (m := 112) (a := 111) (L' := [(112, 0), (112, 1), (112, 2), (112, 3), (112, 4), (111, 5), (1, 11), (1, 12), (1, 16)]) 0 (by decide) (by decide +kernel) (by decide +kernel) cls_3 fi_3_0 (Or.inr ⟨rfl, rfl, rfl⟩) (fun _ => ⟨rfl, rfl⟩) (ps_obj (by decide +kernel)) gw_298 dX4_init_9 rfl ?_
  refine r_aload_n (n := 13) 0 dX4_init_12 rfl rfl ?_
  refine r_null (n := 14) dX4_init_13 rfl ?_
  refine p_putNull (n := 17) (m := 112) (a := 111) (L' := [(112, 0), (112, 1), (112, 2), (112, 3), (112, 4), (111, 5), (1, 11), (1, 12), (1, 16)]) 1 (by decide +kernel) (by decide +kernel) cls_3 fi_3_1 rfl ⟨rfl, rfl⟩ (ps_obj (by decide +kernel)) gw_299 dX4_init_14 rfl ?_
  refine r_aload_n (n := 18) 0 dX4_init_17 rfl rfl ?_
  refine r_iconst (n := 19) (v := 0) dX4_init_18 (by decide) rfl ?_
  refine p_putI (n := 22) (m := 112) (a := 111) (L' := [(112, 0), (112, 1), (112, 2), (112, 3), (112, 4), (111, 5), (1, 11), (1, 12), (1, 16)]) 2 (by decide +kernel) (by decide +kernel) cls_3 fp_3_2 (ps_obj (by decide +kernel)) gw_300 dX4_init_19 rfl ?_
  refine r_aload_n (n := 23) 0 dX4_init_22 rfl rfl ?_
  refine r_iconst (n := 24) (v := 0) dX4_init_23 (by decide) rfl ?_
  refine p_putI (n := 27) (m := 112) (a := 111) (L' := [(112, 0), (112, 1), (112, 2), (112, 3), (112, 4), (111, 5), (1, 11), (1, 12), (1, 16)]) 3 (by decide +kernel) (by decide +kernel) cls_3 fp_3_3 (ps_obj (by decide +kernel)) gw_301 dX4_init_24 rfl ?_
  refine r_aload_n (n := 28) 0 dX4_init_27 rfl rfl ?_
  refine r_lconst (n := 29) (v := 0) dX4_init_28 (by decide) rfl ?_
  refine p_putL (n := 32) (m := 112) (a := 111) (L' := [(112, 0), (112, 1), (112, 2), (112, 3), (112, 4), (111, 5), (1, 11), (1, 12), (1, 16)]) 4 (by decide +kernel) (by decide +kernel) cls_3 fp_3_4 (ps_obj (by decide +kernel)) gw_302 dX4_init_29 rfl ?_
  refine r_aload_n (n := 33) 0 dX4_init_32 rfl rfl ?_
  refine r_lconst (n := 34) (v := 1) dX4_init_33 (by decide) rfl ?_
  refine p_putL (n := 37) (m := 112) (a := 111) (L' := [(112, 0), (112, 1), (112, 2), (112, 3), (112, 4), (1, 11), (1, 12), (1, 16)]) 5 (by decide +kernel) (by decide +kernel) cls_3 fp_3_5 (ps_obj (by decide +kernel)) gw_304 dX4_init_34 rfl ?_
  refine r_iconst (n := 38) (v := 0) dX4_init_37 (by decide) rfl ?_
  refine r_istore_n (n := 39) (lv' := [(2, .int 0), (0, .ref (og_b g + 111)), (1, .ref (og_b g + 24))]) dX4_init_38 rfl (by decide) rfl rfl ?_
  refine r_iload_n (n := 40) 0 dX4_init_39 rfl rfl ?_
  refine r_iconst (n := 41) (v := 4) dX4_init_40 (by decide) rfl ?_
  refine r_icmp_gt (n := 44) (tgt := 64) dX4_init_41 (by decide) rfl (fun q => absurd q (by decide)) (fun _ => ?_)
  refine r_aload_n (n := 45) 1 dX4_init_44 rfl rfl ?_
  refine p_getR (n := 48) (x := 112) (m := 112) (a := 111) 0 (by decide +kernel) (by decide) cls_3 fi_3_0 (ps_obj (by decide +kernel)) gw_298 dX4_init_45 rfl ?_
  refine r_iload_n (n := 49) 0 dX4_init_48 rfl rfl ?_
  refine p_new (n := 52) (m := 112) (L' := [(113, 0), (113, 1), (113, 2), (112, 0), (112, 1), (112, 2), (112, 3), (112, 4), (1, 11), (1, 12), (1, 16)]) (mc := 14) (ms := 78) (by decide +kernel) (by decide +kernel) cls_1 ⟨gw_296, gw_157, gw_69⟩ dv_1 dX4_init_49 rfl ?_
  show ORuns g (d + 2) 14 78 iX4_init 52 [(2, .int 0), (0, .ref (og_b g + 111)), (1, .ref (og_b g + 24))] [.ref (og_b g + 113), .int 0, .ref (og_b g + 112)] (PS 113 [(113, 0), (113, 1), (113, 2), (112, 0), (112, 1), (112, 2), (112, 3), (112, 4), (1, 11), (1, 12), (1, 16)]) _
  refine r_dup (n := 53) dX4_init_52 rfl rfl ?_
  refine r_aload_n (n := 54) 2 dX4_init_53 rfl rfl ?_
  refine r_callI (n := 57) (a := 113) (mc' := 2) (ms' := 10) (mc := 12) (ms := 68) (As := [.ref (og_b g + 24)]) (rest := [.ref (og_b g + 113), .int 0, .ref (og_b g + 112)]) cm_X1_init gw_297 rfl (Nat.le_of_ble_eq_true rfl) dX4_init_54 rfl (ocall_mono (fun v h' e => ?_) (k_113))
  obtain ⟨rfl, rfl⟩ := e
  show ORuns g (d + 2) 12 68 iX4_init 57 [(2, .int 0), (0, .ref (og_b g + 111)), (1, .ref (og_b g + 24))] [.ref (og_b g + 113), .int 0, .ref (og_b g + 112)] (PS 115 [(112, 0), (112, 1), (112, 2), (112, 3), (112, 4), (1, 11), (1, 12), (1, 16)]) _
  refine p_aast (n := 58) (m := 115) (a := 112) (v := 113) (j := 0) (L' := [(112, 1), (112, 2), (112, 3), (112, 4), (1, 11), (1, 12), (1, 16)]) (t := 17) (i0 := 6) (z := 5) (by decide +kernel) (by decide +kernel) (by decide) (ps_arr (by decide +kernel)) (by decide) (fun _ => rfl) (ps_obj (by decide +kernel)) ⟨cq_1.1, cq_1.2.1⟩ (vp_in_nI (n := 0) (N := 5) (by decide) (by decide)) dX4_init_57 rfl ?_
  refine r_iinc (n := 61) (v := 1) (lv' := [(2, .int 1), (0, .ref (og_b g + 111)), (1, .ref (og_b g + 24))]) 0 dX4_init_58 rfl (by decide) (by decide) rfl rfl ?_
  refine r_goto (n := 39) dX4_init_61 (by decide) ?_
  refine r_iload_n (n := 40) 0 dX4_init_39 rfl rfl ?_
  refine r_iconst (n := 41) (v := 4) dX4_init_40 (by decide) rfl ?_
  refine r_icmp_gt (n := 44) (tgt := 64) dX4_init_41 (by decide) rfl (fun q => absurd q (by decide)) (fun _ => ?_)
  refine r_aload_n (n := 45) 1 dX4_init_44 rfl rfl ?_
  refine p_getR (n := 48) (x := 112) (m := 115) (a := 111) 0 (by decide +kernel) (by decide) cls_3 fi_3_0 (ps_obj (by decide +kernel)) gw_298 dX4_init_45 rfl ?_
  refine r_iload_n (n := 49) 0 dX4_init_48 rfl rfl ?_
  refine p_new (n := 52) (m := 115) (L' := [(116, 0), (116, 1), (116, 2), (112, 1), (112, 2), (112, 3), (112, 4), (1, 11), (1, 12), (1, 16)]) (mc := 11) (ms := 61) (by decide +kernel) (by decide +kernel) cls_1 ⟨gw_296, gw_157, gw_69⟩ dv_1 dX4_init_49 rfl ?_
  show ORuns g (d + 2) 11 61 iX4_init 52 [(2, .int 1), (0, .ref (og_b g + 111)), (1, .ref (og_b g + 24))] [.ref (og_b g + 116), .int 1, .ref (og_b g + 112)] (PS 116 [(116, 0), (116, 1), (116, 2), (112, 1), (112, 2), (112, 3), (112, 4), (1, 11), (1, 12), (1, 16)]) _
  refine r_dup (n := 53) dX4_init_52 rfl rfl ?_
  refine r_aload_n (n := 54) 2 dX4_init_53 rfl rfl ?_
  refine r_callI (n := 57) (a := 116) (mc' := 2) (ms' := 10) (mc := 9) (ms := 51) (As := [.ref (og_b g + 24)]) (rest := [.ref (og_b g + 116), .int 1, .ref (og_b g + 112)]) cm_X1_init gw_297 rfl (Nat.le_of_ble_eq_true rfl) dX4_init_54 rfl (ocall_mono (fun v h' e => ?_) (k_116))
  obtain ⟨rfl, rfl⟩ := e
  show ORuns g (d + 2) 9 51 iX4_init 57 [(2, .int 1), (0, .ref (og_b g + 111)), (1, .ref (og_b g + 24))] [.ref (og_b g + 116), .int 1, .ref (og_b g + 112)] (PS 118 [(112, 1), (112, 2), (112, 3), (112, 4), (1, 11), (1, 12), (1, 16)]) _
  refine p_aast (n := 58) (m := 118) (a := 112) (v := 116) (j := 1) (L' := [(112, 2), (112, 3), (112, 4), (1, 11), (1, 12), (1, 16)]) (t := 17) (i0 := 6) (z := 5) (by decide +kernel) (by decide +kernel) (by decide) (ps_arr (by decide +kernel)) (by decide) (fun _ => rfl) (ps_obj (by decide +kernel)) ⟨cq_1.1, cq_1.2.1⟩ (vp_in_nI (n := 1) (N := 5) (by decide) (by decide)) dX4_init_57 rfl ?_
  refine r_iinc (n := 61) (v := 2) (lv' := [(2, .int 2), (0, .ref (og_b g + 111)), (1, .ref (og_b g + 24))]) 0 dX4_init_58 rfl (by decide) (by decide) rfl rfl ?_
  refine r_goto (n := 39) dX4_init_61 (by decide) ?_
  refine r_iload_n (n := 40) 0 dX4_init_39 rfl rfl ?_
  refine r_iconst (n := 41) (v := 4) dX4_init_40 (by decide) rfl ?_
  refine r_icmp_gt (n := 44) (tgt := 64) dX4_init_41 (by decide) rfl (fun q => absurd q (by decide)) (fun _ => ?_)
  refine r_aload_n (n := 45) 1 dX4_init_44 rfl rfl ?_
  refine p_getR (n := 48) (x := 112) (m := 118) (a := 111) 0 (by decide +kernel) (by decide) cls_3 fi_3_0 (ps_obj (by decide +kernel)) gw_298 dX4_init_45 rfl ?_
  refine r_iload_n (n := 49) 0 dX4_init_48 rfl rfl ?_
  refine p_new (n := 52) (m := 118) (L' := [(119, 0), (119, 1), (119, 2), (112, 2), (112, 3), (112, 4), (1, 11), (1, 12), (1, 16)]) (mc := 8) (ms := 44) (by decide +kernel) (by decide +kernel) cls_1 ⟨gw_296, gw_157, gw_69⟩ dv_1 dX4_init_49 rfl ?_
  show ORuns g (d + 2) 8 44 iX4_init 52 [(2, .int 2), (0, .ref (og_b g + 111)), (1, .ref (og_b g + 24))] [.ref (og_b g + 119), .int 2, .ref (og_b g + 112)] (PS 119 [(119, 0), (119, 1), (119, 2), (112, 2), (112, 3), (112, 4), (1, 11), (1, 12), (1, 16)]) _
  refine r_dup (n := 53) dX4_init_52 rfl rfl ?_
  refine r_aload_n (n := 54) 2 dX4_init_53 rfl rfl ?_
  refine r_callI (n := 57) (a := 119) (mc' := 2) (ms' := 10) (mc := 6) (ms := 34) (As := [.ref (og_b g + 24)]) (rest := [.ref (og_b g + 119), .int 2, .ref (og_b g + 112)]) cm_X1_init gw_297 rfl (Nat.le_of_ble_eq_true rfl) dX4_init_54 rfl (ocall_mono (fun v h' e => ?_) (k_119))
  obtain ⟨rfl, rfl⟩ := e
  show ORuns g (d + 2) 6 34 iX4_init 57 [(2, .int 2), (0, .ref (og_b g + 111)), (1, .ref (og_b g + 24))] [.ref (og_b g + 119), .int 2, .ref (og_b g + 112)] (PS 121 [(112, 2), (112, 3), (112, 4), (1, 11), (1, 12), (1, 16)]) _
  refine p_aast (n := 58) (m := 121) (a := 112) (v := 119) (j := 2) (L' := [(112, 3), (112, 4), (1, 11), (1, 12), (1, 16)]) (t := 17) (i0 := 6) (z := 5) (by decide +kernel) (by decide +kernel) (by decide) (ps_arr (by decide +kernel)) (by decide) (fun _ => rfl) (ps_obj (by decide +kernel)) ⟨cq_1.1, cq_1.2.1⟩ (vp_in_nI (n := 2) (N := 5) (by decide) (by decide)) dX4_init_57 rfl ?_
  refine r_iinc (n := 61) (v := 3) (lv' := [(2, .int 3), (0, .ref (og_b g + 111)), (1, .ref (og_b g + 24))]) 0 dX4_init_58 rfl (by decide) (by decide) rfl rfl ?_
  refine r_goto (n := 39) dX4_init_61 (by decide) ?_
  refine r_iload_n (n := 40) 0 dX4_init_39 rfl rfl ?_
  refine r_iconst (n := 41) (v := 4) dX4_init_40 (by decide) rfl ?_
  refine r_icmp_gt (n := 44) (tgt := 64) dX4_init_41 (by decide) rfl (fun q => absurd q (by decide)) (fun _ => ?_)
  refine r_aload_n (n := 45) 1 dX4_init_44 rfl rfl ?_
  refine p_getR (n := 48) (x := 112) (m := 121) (a := 111) 0 (by decide +kernel) (by decide) cls_3 fi_3_0 (ps_obj (by decide +kernel)) gw_298 dX4_init_45 rfl ?_
  refine r_iload_n (n := 49) 0 dX4_init_48 rfl rfl ?_
  refine p_new (n := 52) (m := 121) (L' := [(122, 0), (122, 1), (122, 2), (112, 3), (112, 4), (1, 11), (1, 12), (1, 16)]) (mc := 5) (ms := 27) (by decide +kernel) (by decide +kernel) cls_1 ⟨gw_296, gw_157, gw_69⟩ dv_1 dX4_init_49 rfl ?_
  show ORuns g (d + 2) 5 27 iX4_init 52 [(2, .int 3), (0, .ref (og_b g + 111)), (1, .ref (og_b g + 24))] [.ref (og_b g + 122), .int 3, .ref (og_b g + 112)] (PS 122 [(122, 0), (122, 1), (122, 2), (112, 3), (112, 4), (1, 11), (1, 12), (1, 16)]) _
  refine r_dup (n := 53) dX4_init_52 rfl rfl ?_
  refine r_aload_n (n := 54) 2 dX4_init_53 rfl rfl ?_
  refine r_callI (n := 57) (a := 122) (mc' := 2) (ms' := 10) (mc := 3) (ms := 17) (As := [.ref (og_b g + 24)]) (rest := [.ref (og_b g + 122), .int 3, .ref (og_b g + 112)]) cm_X1_init gw_297 rfl (Nat.le_of_ble_eq_true rfl) dX4_init_54 rfl (ocall_mono (fun v h' e => ?_) (k_122))
  obtain ⟨rfl, rfl⟩ := e
  show ORuns g (d + 2) 3 17 iX4_init 57 [(2, .int 3), (0, .ref (og_b g + 111)), (1, .ref (og_b g + 24))] [.ref (og_b g + 122), .int 3, .ref (og_b g + 112)] (PS 124 [(112, 3), (112, 4), (1, 11), (1, 12), (1, 16)]) _
  refine p_aast (n := 58) (m := 124) (a := 112) (v := 122) (j := 3) (L' := [(112, 4), (1, 11), (1, 12), (1, 16)]) (t := 17) (i0 := 6) (z := 5) (by decide +kernel) (by decide +kernel) (by decide) (ps_arr (by decide +kernel)) (by decide) (fun _ => rfl) (ps_obj (by decide +kernel)) ⟨cq_1.1, cq_1.2.1⟩ (vp_in_nI (n := 3) (N := 5) (by decide) (by decide)) dX4_init_57 rfl ?_
  refine r_iinc (n := 61) (v := 4) (lv' := [(2, .int 4), (0, .ref (og_b g + 111)), (1, .ref (og_b g + 24))]) 0 dX4_init_58 rfl (by decide) (by decide) rfl rfl ?_
  refine r_goto (n := 39) dX4_init_61 (by decide) ?_
  refine r_iload_n (n := 40) 0 dX4_init_39 rfl rfl ?_
  refine r_iconst (n := 41) (v := 4) dX4_init_40 (by decide) rfl ?_
  refine r_icmp_gt (n := 44) (tgt := 64) dX4_init_41 (by decide) rfl (fun q => absurd q (by decide)) (fun _ => ?_)
  refine r_aload_n (n := 45) 1 dX4_init_44 rfl rfl ?_
  refine p_getR (n := 48) (x := 112) (m := 124) (a := 111) 0 (by decide +kernel) (by decide) cls_3 fi_3_0 (ps_obj (by decide +kernel)) gw_298 dX4_init_45 rfl ?_
  refine r_iload_n (n := 49) 0 dX4_init_48 rfl rfl ?_
  refine p_new (n := 52) (m := 124) (L' := [(125, 0), (125, 1), (125, 2), (112, 4), (1, 11), (1, 12), (1, 16)]) (mc := 2) (ms := 10) (by decide +kernel) (by decide +kernel) cls_1 ⟨gw_296, gw_157, gw_69⟩ dv_1 dX4_init_49 rfl ?_
  show ORuns g (d + 2) 2 10 iX4_init 52 [(2, .int 4), (0, .ref (og_b g + 111)), (1, .ref (og_b g + 24))] [.ref (og_b g + 125), .int 4, .ref (og_b g + 112)] (PS 125 [(125, 0), (125, 1), (125, 2), (112, 4), (1, 11), (1, 12), (1, 16)]) _
  refine r_dup (n := 53) dX4_init_52 rfl rfl ?_
  refine r_aload_n (n := 54) 2 dX4_init_53 rfl rfl ?_
  refine r_callI (n := 57) (a := 125) (mc' := 2) (ms' := 10) (mc := 0) (ms := 0) (As := [.ref (og_b g + 24)]) (rest := [.ref (og_b g + 125), .int 4, .ref (og_b g + 112)]) cm_X1_init gw_297 rfl (Nat.le_of_ble_eq_true rfl) dX4_init_54 rfl (ocall_mono (fun v h' e => ?_) (k_125))
  obtain ⟨rfl, rfl⟩ := e
  show ORuns g (d + 2) 0 0 iX4_init 57 [(2, .int 4), (0, .ref (og_b g + 111)), (1, .ref (og_b g + 24))] [.ref (og_b g + 125), .int 4, .ref (og_b g + 112)] (PS 127 [(112, 4), (1, 11), (1, 12), (1, 16)]) _
  refine p_aast (n := 58) (m := 127) (a := 112) (v := 125) (j := 4) (L' := [(1, 11), (1, 12), (1, 16)]) (t := 17) (i0 := 6) (z := 5) (by decide +kernel) (by decide +kernel) (by decide) (ps_arr (by decide +kernel)) (by decide) (fun _ => rfl) (ps_obj (by decide +kernel)) ⟨cq_1.1, cq_1.2.1⟩ (vp_in_nI (n := 4) (N := 5) (by decide) (by decide)) dX4_init_57 rfl ?_
  refine r_iinc (n := 61) (v := 5) (lv' := [(2, .int 5), (0, .ref (og_b g + 111)), (1, .ref (og_b g + 24))]) 0 dX4_init_58 rfl (by decide) (by decide) rfl rfl ?_
  refine r_goto (n := 39) dX4_init_61 (by decide) ?_
  refine r_iload_n (n := 40) 0 dX4_init_39 rfl rfl ?_
  refine r_iconst (n := 41) (v := 4) dX4_init_40 (by decide) rfl ?_
  refine r_icmp_gt (n := 44) (tgt := 64) dX4_init_41 (by decide) rfl (fun _ => ?_) (fun q => absurd (by decide) q)
  exact r_vret (st := []) dX4_init_64 rfl rfl
set_option maxRecDepth 20000 in
theorem k_1 {g : OG} {d : Nat} : OCall g (d + 3) 127 1228 iX10_init [.ref (og_b g + 1)] (PS 1 [(1, 0), (1, 1), (1, 2), (1, 3), (1, 4), (1, 5), (1, 6), (1, 7), (1, 8), (1, 9), (1, 10), (1, 11), (1, 12), (1, 16)]) (QV (fun h' => h' = PS 128 [])) := by
  refine ocall_of (by decide) (Nat.le_of_ble_eq_true rfl) ?_
  show ORuns g (d + 3) 127 1228 iX10_init 0 [(0, .ref (og_b g + 1))] [] (PS 1 [(1, 0), (1, 1), (1, 2), (1, 3), (1, 4), (1, 5), (1, 6), (1, 7), (1, 8), (1, 9), (1, 10), (1, 11), (1, 12), (1, 16)]) _
  refine r_aload_n (n := 1) 0 dX10_init_0 rfl rfl ?_
  refine r_objInit (n := 4) gw_84 ⟨gw_85, gw_86⟩ (Nat.le_of_ble_eq_true rfl) dX10_init_1 rfl ?_
  refine r_aload_n (n := 5) 0 dX10_init_4 rfl rfl ?_
  refine r_bipush (n := 7) (v := 6) dX10_init_5 (by decide) rfl ?_
  refine p_anew (n := 10) (m := 1) (L' := [(2, 0), (2, 1), (2, 2), (2, 3), (2, 4), (2, 5), (1, 0), (1, 1), (1, 2), (1, 3), (1, 4), (1, 5), (1, 6), (1, 7), (1, 8), (1, 9), (1, 10), (1, 11), (1, 12), (1, 16)]) (t := 14) (i0 := 3) (z := 6) (Z := 6) (mc := 126) (ms := 1222) (by decide +kernel) (by decide +kernel) (by decide) (fun _ => rfl) gw_87 (fun _ h => h.2.2.1.1) (by decide) dX10_init_7 rfl ?_
  show ORuns g (d + 3) 126 1222 iX10_init 10 [(0, .ref (og_b g + 1))] [.ref (og_b g + 2), .ref (og_b g + 1)] (PS 2 [(2, 0), (2, 1), (2, 2), (2, 3), (2, 4), (2, 5), (1, 0), (1, 1), (1, 2), (1, 3), (1, 4), (1, 5), (1, 6), (1, 7), (1, 8), (1, 9), (1, 10), (1, 11), (1, 12), (1, 16)]) _
  refine p_putR (n := 13) (v := 2) (m := 2) (a := 1) (L' := [(2, 0), (2, 1), (2, 2), (2, 3), (2, 4), (2, 5), (1, 1), (1, 2), (1, 3), (1, 4), (1, 5), (1, 6), (1, 7), (1, 8), (1, 9), (1, 10), (1, 11), (1, 12), (1, 16)]) 0 (by decide) (by decide +kernel) (by decide +kernel) cls_9 fi_9_0 (Or.inr ⟨rfl, rfl, rfl⟩) (fun _ => ⟨rfl, rfl⟩) (ps_obj (by decide +kernel)) gw_319 dX10_init_10 rfl ?_
  refine r_iconst (n := 14) (v := 0) dX10_init_13 (by decide) rfl ?_
  refine r_istore_n (n := 15) (lv' := [(1, .int 0), (0, .ref (og_b g + 1))]) dX10_init_14 rfl (by decide) rfl rfl ?_
  refine r_iload_n (n := 16) 0 dX10_init_15 rfl rfl ?_
  refine r_bipush (n := 18) (v := 6) dX10_init_16 (by decide) rfl ?_
  refine r_icmp_ge (n := 21) (tgt := 40) dX10_init_18 (by decide) rfl (fun q => absurd q (by decide)) (fun _ => ?_)
  refine r_aload_n (n := 22) 1 dX10_init_21 rfl rfl ?_
  refine p_getR (n := 25) (x := 2) (m := 2) (a := 1) 0 (by decide +kernel) (by decide) cls_9 fi_9_0 (ps_obj (by decide +kernel)) gw_319 dX10_init_22 rfl ?_
  refine r_iload_n (n := 26) 0 dX10_init_25 rfl rfl ?_
  refine p_new (n := 29) (m := 2) (L' := [(3, 0), (3, 1), (2, 0), (2, 1), (2, 2), (2, 3), (2, 4), (2, 5), (1, 1), (1, 2), (1, 3), (1, 4), (1, 5), (1, 6), (1, 7), (1, 8), (1, 9), (1, 10), (1, 11), (1, 12), (1, 16)]) (mc := 125) (ms := 1220) (by decide +kernel) (by decide +kernel) cls_6 ⟨gw_87, gw_89, gw_65⟩ dv_6 dX10_init_26 rfl ?_
  show ORuns g (d + 3) 125 1220 iX10_init 29 [(1, .int 0), (0, .ref (og_b g + 1))] [.ref (og_b g + 3), .int 0, .ref (og_b g + 2)] (PS 3 [(3, 0), (3, 1), (2, 0), (2, 1), (2, 2), (2, 3), (2, 4), (2, 5), (1, 1), (1, 2), (1, 3), (1, 4), (1, 5), (1, 6), (1, 7), (1, 8), (1, 9), (1, 10), (1, 11), (1, 12), (1, 16)]) _
  refine r_dup (n := 30) dX10_init_29 rfl rfl ?_
  refine r_callIN (n := 33) (host := RX10) (a := 3) (mc' := 1) (ms' := 40) (mc := 124) (ms := 1180) (As := []) (rest := [.ref (og_b g + 3), .int 0, .ref (og_b g + 2)]) cm_X7_init (fun U h => h.2.1.1.1) rfl (Nat.le_of_ble_eq_true rfl) dX10_init_30 rfl (ocall_mono (fun v h' e => ?_) (k_3 (d := d + 1)))
  obtain ⟨rfl, rfl⟩ := e
  show ORuns g (d + 3) 124 1180 iX10_init 33 [(1, .int 0), (0, .ref (og_b g + 1))] [.ref (og_b g + 3), .int 0, .ref (og_b g + 2)] (PS 4 [(2, 0), (2, 1), (2, 2), (2, 3), (2, 4), (2, 5), (1, 1), (1, 2), (1, 3), (1, 4), (1, 5), (1, 6), (1, 7), (1, 8), (1, 9), (1, 10), (1, 11), (1, 12), (1, 16)]) _
  refine p_aast (n := 34) (m := 4) (a := 2) (v := 3) (j := 0) (L' := [(2, 1), (2, 2), (2, 3), (2, 4), (2, 5), (1, 1), (1, 2), (1, 3), (1, 4), (1, 5), (1, 6), (1, 7), (1, 8), (1, 9), (1, 10), (1, 11), (1, 12), (1, 16)]) (t := 14) (i0 := 3) (z := 6) (by decide +kernel) (by decide +kernel) (by decide) (ps_arr (by decide +kernel)) (by decide) (fun _ => rfl) (ps_obj (by decide +kernel)) ⟨cq_6.1, cq_6.2.1⟩ (vp_in_nI (n := 0) (N := 6) (by decide) (by decide)) dX10_init_33 rfl ?_
  refine r_iinc (n := 37) (v := 1) (lv' := [(1, .int 1), (0, .ref (og_b g + 1))]) 0 dX10_init_34 rfl (by decide) (by decide) rfl rfl ?_
  refine r_goto (n := 15) dX10_init_37 (by decide) ?_
  refine r_iload_n (n := 16) 0 dX10_init_15 rfl rfl ?_
  refine r_bipush (n := 18) (v := 6) dX10_init_16 (by decide) rfl ?_
  refine r_icmp_ge (n := 21) (tgt := 40) dX10_init_18 (by decide) rfl (fun q => absurd q (by decide)) (fun _ => ?_)
  refine r_aload_n (n := 22) 1 dX10_init_21 rfl rfl ?_
  refine p_getR (n := 25) (x := 2) (m := 4) (a := 1) 0 (by decide +kernel) (by decide) cls_9 fi_9_0 (ps_obj (by decide +kernel)) gw_319 dX10_init_22 rfl ?_
  refine r_iload_n (n := 26) 0 dX10_init_25 rfl rfl ?_
  refine p_new (n := 29) (m := 4) (L' := [(5, 0), (5, 1), (2, 1), (2, 2), (2, 3), (2, 4), (2, 5), (1, 1), (1, 2), (1, 3), (1, 4), (1, 5), (1, 6), (1, 7), (1, 8), (1, 9), (1, 10), (1, 11), (1, 12), (1, 16)]) (mc := 123) (ms := 1178) (by decide +kernel) (by decide +kernel) cls_6 ⟨gw_87, gw_89, gw_65⟩ dv_6 dX10_init_26 rfl ?_
  show ORuns g (d + 3) 123 1178 iX10_init 29 [(1, .int 1), (0, .ref (og_b g + 1))] [.ref (og_b g + 5), .int 1, .ref (og_b g + 2)] (PS 5 [(5, 0), (5, 1), (2, 1), (2, 2), (2, 3), (2, 4), (2, 5), (1, 1), (1, 2), (1, 3), (1, 4), (1, 5), (1, 6), (1, 7), (1, 8), (1, 9), (1, 10), (1, 11), (1, 12), (1, 16)]) _
  refine r_dup (n := 30) dX10_init_29 rfl rfl ?_
  refine r_callIN (n := 33) (host := RX10) (a := 5) (mc' := 1) (ms' := 40) (mc := 122) (ms := 1138) (As := []) (rest := [.ref (og_b g + 5), .int 1, .ref (og_b g + 2)]) cm_X7_init (fun U h => h.2.1.1.1) rfl (Nat.le_of_ble_eq_true rfl) dX10_init_30 rfl (ocall_mono (fun v h' e => ?_) (k_5 (d := d + 1)))
  obtain ⟨rfl, rfl⟩ := e
  show ORuns g (d + 3) 122 1138 iX10_init 33 [(1, .int 1), (0, .ref (og_b g + 1))] [.ref (og_b g + 5), .int 1, .ref (og_b g + 2)] (PS 6 [(2, 1), (2, 2), (2, 3), (2, 4), (2, 5), (1, 1), (1, 2), (1, 3), (1, 4), (1, 5), (1, 6), (1, 7), (1, 8), (1, 9), (1, 10), (1, 11), (1, 12), (1, 16)]) _
  refine p_aast (n := 34) (m := 6) (a := 2) (v := 5) (j := 1) (L' := [(2, 2), (2, 3), (2, 4), (2, 5), (1, 1), (1, 2), (1, 3), (1, 4), (1, 5), (1, 6), (1, 7), (1, 8), (1, 9), (1, 10), (1, 11), (1, 12), (1, 16)]) (t := 14) (i0 := 3) (z := 6) (by decide +kernel) (by decide +kernel) (by decide) (ps_arr (by decide +kernel)) (by decide) (fun _ => rfl) (ps_obj (by decide +kernel)) ⟨cq_6.1, cq_6.2.1⟩ (vp_in_nI (n := 1) (N := 6) (by decide) (by decide)) dX10_init_33 rfl ?_
  refine r_iinc (n := 37) (v := 2) (lv' := [(1, .int 2), (0, .ref (og_b g + 1))]) 0 dX10_init_34 rfl (by decide) (by decide) rfl rfl ?_
  refine r_goto (n := 15) dX10_init_37 (by decide) ?_
  refine r_iload_n (n := 16) 0 dX10_init_15 rfl rfl ?_
  refine r_bipush (n := 18) (v := 6) dX10_init_16 (by decide) rfl ?_
  refine r_icmp_ge (n := 21) (tgt := 40) dX10_init_18 (by decide) rfl (fun q => absurd q (by decide)) (fun _ => ?_)
  refine r_aload_n (n := 22) 1 dX10_init_21 rfl rfl ?_
  refine p_getR (n := 25) (x := 2) (m := 6) (a := 1) 0 (by decide +kernel) (by decide) cls_9 fi_9_0 (ps_obj (by decide +kernel)) gw_319 dX10_init_22 rfl ?_
  refine r_iload_n (n := 26) 0 dX10_init_25 rfl rfl ?_
  refine p_new (n := 29) (m := 6) (L' := [(7, 0), (7, 1), (2, 2), (2, 3), (2, 4), (2, 5), (1, 1), (1, 2), (1, 3), (1, 4), (1, 5), (1, 6), (1, 7), (1, 8), (1, 9), (1, 10), (1, 11), (1, 12), (1, 16)]) (mc := 121) (ms := 1136) (by decide +kernel) (by decide +kernel) cls_6 ⟨gw_87, gw_89, gw_65⟩ dv_6 dX10_init_26 rfl ?_
  show ORuns g (d + 3) 121 1136 iX10_init 29 [(1, .int 2), (0, .ref (og_b g + 1))] [.ref (og_b g + 7), .int 2, .ref (og_b g + 2)] (PS 7 [(7, 0), (7, 1), (2, 2), (2, 3), (2, 4), (2, 5), (1, 1), (1, 2), (1, 3), (1, 4), (1, 5), (1, 6), (1, 7), (1, 8), (1, 9), (1, 10), (1, 11), (1, 12), (1, 16)]) _
  refine r_dup (n := 30) dX10_init_29 rfl rfl ?_
  refine r_callIN (n := 33) (host := RX10) (a := 7) (mc' := 1) (ms' := 40) (mc := 120) (ms := 1096) (As := []) (rest := [.ref (og_b g + 7), .int 2, .ref (og_b g + 2)]) cm_X7_init (fun U h => h.2.1.1.1) rfl (Nat.le_of_ble_eq_true rfl) dX10_init_30 rfl (ocall_mono (fun v h' e => ?_) (k_7 (d := d + 1)))
  obtain ⟨rfl, rfl⟩ := e
  show ORuns g (d + 3) 120 1096 iX10_init 33 [(1, .int 2), (0, .ref (og_b g + 1))] [.ref (og_b g + 7), .int 2, .ref (og_b g + 2)] (PS 8 [(2, 2), (2, 3), (2, 4), (2, 5), (1, 1), (1, 2), (1, 3), (1, 4), (1, 5), (1, 6), (1, 7), (1, 8), (1, 9), (1, 10), (1, 11), (1, 12), (1, 16)]) _
  refine p_aast (n := 34) (m := 8) (a := 2) (v := 7) (j := 2) (L' := [(2, 3), (2, 4), (2, 5), (1, 1), (1, 2), (1, 3), (1, 4), (1, 5), (1, 6), (1, 7), (1, 8), (1, 9), (1, 10), (1, 11), (1, 12), (1, 16)]) (t := 14) (i0 := 3) (z := 6) (by decide +kernel) (by decide +kernel) (by decide) (ps_arr (by decide +kernel)) (by decide) (fun _ => rfl) (ps_obj (by decide +kernel)) ⟨cq_6.1, cq_6.2.1⟩ (vp_in_nI (n := 2) (N := 6) (by decide) (by decide)) dX10_init_33 rfl ?_
  refine r_iinc (n := 37) (v := 3) (lv' := [(1, .int 3), (0, .ref (og_b g + 1))]) 0 dX10_init_34 rfl (by decide) (by decide) rfl rfl ?_
  refine r_goto (n := 15) dX10_init_37 (by decide) ?_
  refine r_iload_n (n := 16) 0 dX10_init_15 rfl rfl ?_
  refine r_bipush (n := 18) (v := 6) dX10_init_16 (by decide) rfl ?_
  refine r_icmp_ge (n := 21) (tgt := 40) dX10_init_18 (by decide) rfl (fun q => absurd q (by decide)) (fun _ => ?_)
  refine r_aload_n (n := 22) 1 dX10_init_21 rfl rfl ?_
  refine p_getR (n := 25) (x := 2) (m := 8) (a := 1) 0 (by decide +kernel) (by decide) cls_9 fi_9_0 (ps_obj (by decide +kernel)) gw_319 dX10_init_22 rfl ?_
  refine r_iload_n (n := 26) 0 dX10_init_25 rfl rfl ?_
  refine p_new (n := 29) (m := 8) (L' := [(9, 0), (9, 1), (2, 3), (2, 4), (2, 5), (1, 1), (1, 2), (1, 3), (1, 4), (1, 5), (1, 6), (1, 7), (1, 8), (1, 9), (1, 10), (1, 11), (1, 12), (1, 16)]) (mc := 119) (ms := 1094) (by decide +kernel) (by decide +kernel) cls_6 ⟨gw_87, gw_89, gw_65⟩ dv_6 dX10_init_26 rfl ?_
  show ORuns g (d + 3) 119 1094 iX10_init 29 [(1, .int 3), (0, .ref (og_b g + 1))] [.ref (og_b g + 9), .int 3, .ref (og_b g + 2)] (PS 9 [(9, 0), (9, 1), (2, 3), (2, 4), (2, 5), (1, 1), (1, 2), (1, 3), (1, 4), (1, 5), (1, 6), (1, 7), (1, 8), (1, 9), (1, 10), (1, 11), (1, 12), (1, 16)]) _
  refine r_dup (n := 30) dX10_init_29 rfl rfl ?_
  refine r_callIN (n := 33) (host := RX10) (a := 9) (mc' := 1) (ms' := 40) (mc := 118) (ms := 1054) (As := []) (rest := [.ref (og_b g + 9), .int 3, .ref (og_b g + 2)]) cm_X7_init (fun U h => h.2.1.1.1) rfl (Nat.le_of_ble_eq_true rfl) dX10_init_30 rfl (ocall_mono (fun v h' e => ?_) (k_9 (d := d + 1)))
  obtain ⟨rfl, rfl⟩ := e
  show ORuns g (d + 3) 118 1054 iX10_init 33 [(1, .int 3), (0, .ref (og_b g + 1))] [.ref (og_b g + 9), .int 3, .ref (og_b g + 2)] (PS 10 [(2, 3), (2, 4), (2, 5), (1, 1), (1, 2), (1, 3), (1, 4), (1, 5), (1, 6), (1, 7), (1, 8), (1, 9), (1, 10), (1, 11), (1, 12), (1, 16)]) _
  refine p_aast (n := 34) (m := 10) (a := 2) (v := 9) (j := 3) (L' := [(2, 4), (2, 5), (1, 1), (1, 2), (1, 3), (1, 4), (1, 5), (1, 6), (1, 7), (1, 8), (1, 9), (1, 10), (1, 11), (1, 12), (1, 16)]) (t := 14) (i0 := 3) (z := 6) (by decide +kernel) (by decide +kernel) (by decide) (ps_arr (by decide +kernel)) (by decide) (fun _ => rfl) (ps_obj (by decide +kernel)) ⟨cq_6.1, cq_6.2.1⟩ (vp_in_nI (n := 3) (N := 6) (by decide) (by decide)) dX10_init_33 rfl ?_
  refine r_iinc (n := 37) (v := 4) (lv' := [(1, .int 4), (0, .ref (og_b g + 1))]) 0 dX10_init_34 rfl (by decide) (by decide) rfl rfl ?_
  refine r_goto (n := 15) dX10_init_37 (by decide) ?_
  refine r_iload_n (n := 16) 0 dX10_init_15 rfl rfl ?_
  refine r_bipush (n := 18) (v := 6) dX10_init_16 (by decide) rfl ?_
  refine r_icmp_ge (n := 21) (tgt := 40) dX10_init_18 (by decide) rfl (fun q => absurd q (by decide)) (fun _ => ?_)
  refine r_aload_n (n := 22) 1 dX10_init_21 rfl rfl ?_
  refine p_getR (n := 25) (x := 2) (m := 10) (a := 1) 0 (by decide +kernel) (by decide) cls_9 fi_9_0 (ps_obj (by decide +kernel)) gw_319 dX10_init_22 rfl ?_
  refine r_iload_n (n := 26) 0 dX10_init_25 rfl rfl ?_
  refine p_new (n := 29) (m := 10) (L' := [(11, 0), (11, 1), (2, 4), (2, 5), (1, 1), (1, 2), (1, 3), (1, 4), (1, 5), (1, 6), (1, 7), (1, 8), (1, 9), (1, 10), (1, 11), (1, 12), (1, 16)]) (mc := 117) (ms := 1052) (by decide +kernel) (by decide +kernel) cls_6 ⟨gw_87, gw_89, gw_65⟩ dv_6 dX10_init_26 rfl ?_
  show ORuns g (d + 3) 117 1052 iX10_init 29 [(1, .int 4), (0, .ref (og_b g + 1))] [.ref (og_b g + 11), .int 4, .ref (og_b g + 2)] (PS 11 [(11, 0), (11, 1), (2, 4), (2, 5), (1, 1), (1, 2), (1, 3), (1, 4), (1, 5), (1, 6), (1, 7), (1, 8), (1, 9), (1, 10), (1, 11), (1, 12), (1, 16)]) _
  refine r_dup (n := 30) dX10_init_29 rfl rfl ?_
  refine r_callIN (n := 33) (host := RX10) (a := 11) (mc' := 1) (ms' := 40) (mc := 116) (ms := 1012) (As := []) (rest := [.ref (og_b g + 11), .int 4, .ref (og_b g + 2)]) cm_X7_init (fun U h => h.2.1.1.1) rfl (Nat.le_of_ble_eq_true rfl) dX10_init_30 rfl (ocall_mono (fun v h' e => ?_) (k_11 (d := d + 1)))
  obtain ⟨rfl, rfl⟩ := e
  show ORuns g (d + 3) 116 1012 iX10_init 33 [(1, .int 4), (0, .ref (og_b g + 1))] [.ref (og_b g + 11), .int 4, .ref (og_b g + 2)] (PS 12 [(2, 4), (2, 5), (1, 1), (1, 2), (1, 3), (1, 4), (1, 5), (1, 6), (1, 7), (1, 8), (1, 9), (1, 10), (1, 11), (1, 12), (1, 16)]) _
  refine p_aast (n := 34) (m := 12) (a := 2) (v := 11) (j := 4) (L' := [(2, 5), (1, 1), (1, 2), (1, 3), (1, 4), (1, 5), (1, 6), (1, 7), (1, 8), (1, 9), (1, 10), (1, 11), (1, 12), (1, 16)]) (t := 14) (i0 := 3) (z := 6) (by decide +kernel) (by decide +kernel) (by decide) (ps_arr (by decide +kernel)) (by decide) (fun _ => rfl) (ps_obj (by decide +kernel)) ⟨cq_6.1, cq_6.2.1⟩ (vp_in_nI (n := 4) (N := 6) (by decide) (by decide)) dX10_init_33 rfl ?_
  refine r_iinc (n := 37) (v := 5) (lv' := [(1, .int 5), (0, .ref (og_b g + 1))]) 0 dX10_init_34 rfl (by decide) (by decide) rfl rfl ?_
  refine r_goto (n := 15) dX10_init_37 (by decide) ?_
  refine r_iload_n (n := 16) 0 dX10_init_15 rfl rfl ?_
  refine r_bipush (n := 18) (v := 6) dX10_init_16 (by decide) rfl ?_
  refine r_icmp_ge (n := 21) (tgt := 40) dX10_init_18 (by decide) rfl (fun q => absurd q (by decide)) (fun _ => ?_)
  refine r_aload_n (n := 22) 1 dX10_init_21 rfl rfl ?_
  refine p_getR (n := 25) (x := 2) (m := 12) (a := 1) 0 (by decide +kernel) (by decide) cls_9 fi_9_0 (ps_obj (by decide +kernel)) gw_319 dX10_init_22 rfl ?_
  refine r_iload_n (n := 26) 0 dX10_init_25 rfl rfl ?_
  refine p_new (n := 29) (m := 12) (L' := [(13, 0), (13, 1), (2, 5), (1, 1), (1, 2), (1, 3), (1, 4), (1, 5), (1, 6), (1, 7), (1, 8), (1, 9), (1, 10), (1, 11), (1, 12), (1, 16)]) (mc := 115) (ms := 1010) (by decide +kernel) (by decide +kernel) cls_6 ⟨gw_87, gw_89, gw_65⟩ dv_6 dX10_init_26 rfl ?_
  show ORuns g (d + 3) 115 1010 iX10_init 29 [(1, .int 5), (0, .ref (og_b g + 1))] [.ref (og_b g + 13), .int 5, .ref (og_b g + 2)] (PS 13 [(13, 0), (13, 1), (2, 5), (1, 1), (1, 2), (1, 3), (1, 4), (1, 5), (1, 6), (1, 7), (1, 8), (1, 9), (1, 10), (1, 11), (1, 12), (1, 16)]) _
  refine r_dup (n := 30) dX10_init_29 rfl rfl ?_
  refine r_callIN (n := 33) (host := RX10) (a := 13) (mc' := 1) (ms' := 40) (mc := 114) (ms := 970) (As := []) (rest := [.ref (og_b g + 13), .int 5, .ref (og_b g + 2)]) cm_X7_init (fun U h => h.2.1.1.1) rfl (Nat.le_of_ble_eq_true rfl) dX10_init_30 rfl (ocall_mono (fun v h' e => ?_) (k_13 (d := d + 1)))
  obtain ⟨rfl, rfl⟩ := e
  show ORuns g (d + 3) 114 970 iX10_init 33 [(1, .int 5), (0, .ref (og_b g + 1))] [.ref (og_b g + 13), .int 5, .ref (og_b g + 2)] (PS 14 [(2, 5), (1, 1), (1, 2), (1, 3), (1, 4), (1, 5), (1, 6), (1, 7), (1, 8), (1, 9), (1, 10), (1, 11), (1, 12), (1, 16)]) _
  refine p_aast (n := 34) (m := 14) (a := 2) (v := 13) (j := 5) (L' := [(1, 1), (1, 2), (1, 3), (1, 4), (1, 5), (1, 6), (1, 7), (1, 8), (1, 9), (1, 10), (1, 11), (1, 12), (1, 16)]) (t := 14) (i0 := 3) (z := 6) (by decide +kernel) (by decide +kernel) (by decide) (ps_arr (by decide +kernel)) (by decide) (fun _ => rfl) (ps_obj (by decide +kernel)) ⟨cq_6.1, cq_6.2.1⟩ (vp_in_nI (n := 5) (N := 6) (by decide) (by decide)) dX10_init_33 rfl ?_
  refine r_iinc (n := 37) (v := 6) (lv' := [(1, .int 6), (0, .ref (og_b g + 1))]) 0 dX10_init_34 rfl (by decide) (by decide) rfl rfl ?_
  refine r_goto (n := 15) dX10_init_37 (by decide) ?_
  refine r_iload_n (n := 16) 0 dX10_init_15 rfl rfl ?_
  refine r_bipush (n := 18) (v := 6) dX10_init_16 (by decide) rfl ?_
  refine r_icmp_ge (n := 21) (tgt := 40) dX10_init_18 (by decide) rfl (fun _ => ?_) (fun q => absurd (by decide) q)
  refine r_aload_n (n := 41) 1 dX10_init_40 rfl rfl ?_
  refine r_iconst (n := 42) (v := 4) dX10_init_41 (by decide) rfl ?_
  refine p_anew (n := 45) (m := 14) (L' := [(15, 0), (15, 1), (15, 2), (15, 3), (1, 1), (1, 2), (1, 3), (1, 4), (1, 5), (1, 6), (1, 7), (1, 8), (1, 9), (1, 10), (1, 11), (1, 12), (1, 16)]) (t := 15) (i0 := 4) (z := 4) (Z := 4) (mc := 113) (ms := 966) (by decide +kernel) (by decide +kernel) (by decide) (fun _ => rfl) gw_106 (fun _ h => h.2.2.1.2.1) (by decide) dX10_init_42 rfl ?_
  show ORuns g (d + 3) 113 966 iX10_init 45 [(1, .int 6), (0, .ref (og_b g + 1))] [.ref (og_b g + 15), .ref (og_b g + 1)] (PS 15 [(15, 0), (15, 1), (15, 2), (15, 3), (1, 1), (1, 2), (1, 3), (1, 4), (1, 5), (1, 6), (1, 7), (1, 8), (1, 9), (1, 10), (1, 11), (1, 12), (1, 16)]) _
  refine p_putR (n := 48) (v := 15) (m := 15) (a := 1) (L' := [(15, 0), (15, 1), (15, 2), (15, 3), (1, 2), (1, 3), (1, 4), (1, 5), (1, 6), (1, 7), (1, 8), (1, 9), (1, 10), (1, 11), (1, 12), (1, 16)]) 1 (by decide) (by decide +kernel) (by decide +kernel) cls_9 fi_9_1 (Or.inr ⟨rfl, rfl, rfl⟩) (fun _ => ⟨rfl, rfl⟩) (ps_obj (by decide +kernel)) gw_320 dX10_init_45 rfl ?_
  refine r_iconst (n := 49) (v := 0) dX10_init_48 (by decide) rfl ?_
  refine r_istore_n (n := 50) (lv' := [(1, .int 0), (0, .ref (og_b g + 1))]) dX10_init_49 rfl (by decide) rfl rfl ?_
  refine r_iload_n (n := 51) 0 dX10_init_50 rfl rfl ?_
  refine r_iconst (n := 52) (v := 4) dX10_init_51 (by decide) rfl ?_
  refine r_icmp_ge (n := 55) (tgt := 74) dX10_init_52 (by decide) rfl (fun q => absurd q (by decide)) (fun _ => ?_)
  refine r_aload_n (n := 56) 1 dX10_init_55 rfl rfl ?_
  refine p_getR (n := 59) (x := 15) (m := 15) (a := 1) 1 (by decide +kernel) (by decide) cls_9 fi_9_1 (ps_obj (by decide +kernel)) gw_320 dX10_init_56 rfl ?_
  refine r_iload_n (n := 60) 0 dX10_init_59 rfl rfl ?_
  refine p_new (n := 63) (m := 15) (L' := [(16, 0), (16, 1), (15, 0), (15, 1), (15, 2), (15, 3), (1, 2), (1, 3), (1, 4), (1, 5), (1, 6), (1, 7), (1, 8), (1, 9), (1, 10), (1, 11), (1, 12), (1, 16)]) (mc := 112) (ms := 964) (by decide +kernel) (by decide +kernel) cls_8 ⟨gw_106, gw_108, gw_66⟩ dv_8 dX10_init_60 rfl ?_
  show ORuns g (d + 3) 112 964 iX10_init 63 [(1, .int 0), (0, .ref (og_b g + 1))] [.ref (og_b g + 16), .int 0, .ref (og_b g + 15)] (PS 16 [(16, 0), (16, 1), (15, 0), (15, 1), (15, 2), (15, 3), (1, 2), (1, 3), (1, 4), (1, 5), (1, 6), (1, 7), (1, 8), (1, 9), (1, 10), (1, 11), (1, 12), (1, 16)]) _
  refine r_dup (n := 64) dX10_init_63 rfl rfl ?_
  refine r_callIN (n := 67) (host := RX10) (a := 16) (mc' := 1) (ms' := 60) (mc := 111) (ms := 904) (As := []) (rest := [.ref (og_b g + 16), .int 0, .ref (og_b g + 15)]) cm_X9_init (fun U h => h.2.1.1.2.1) rfl (Nat.le_of_ble_eq_true rfl) dX10_init_64 rfl (ocall_mono (fun v h' e => ?_) (k_16 (d := d + 1)))
  obtain ⟨rfl, rfl⟩ := e
  show ORuns g (d + 3) 111 904 iX10_init 67 [(1, .int 0), (0, .ref (og_b g + 1))] [.ref (og_b g + 16), .int 0, .ref (og_b g + 15)] (PS 17 [(15, 0), (15, 1), (15, 2), (15, 3), (1, 2), (1, 3), (1, 4), (1, 5), (1, 6), (1, 7), (1, 8), (1, 9), (1, 10), (1, 11), (1, 12), (1, 16)]) _
  refine p_aast (n := 68) (m := 17) (a := 15) (v := 16) (j := 0) (L' := [(15, 1), (15, 2), (15, 3), (1, 2), (1, 3), (1, 4), (1, 5), (1, 6), (1, 7), (1, 8), (1, 9), (1, 10), (1, 11), (1, 12), (1, 16)]) (t := 15) (i0 := 4) (z := 4) (by decide +kernel) (by decide +kernel) (by decide) (ps_arr (by decide +kernel)) (by decide) (fun _ => rfl) (ps_obj (by decide +kernel)) ⟨cq_8.1, cq_8.2.1⟩ (vp_in_nI (n := 0) (N := 4) (by decide) (by decide)) dX10_init_67 rfl ?_
  refine r_iinc (n := 71) (v := 1) (lv' := [(1, .int 1), (0, .ref (og_b g + 1))]) 0 dX10_init_68 rfl (by decide) (by decide) rfl rfl ?_
  refine r_goto (n := 50) dX10_init_71 (by decide) ?_
  refine r_iload_n (n := 51) 0 dX10_init_50 rfl rfl ?_
  refine r_iconst (n := 52) (v := 4) dX10_init_51 (by decide) rfl ?_
  refine r_icmp_ge (n := 55) (tgt := 74) dX10_init_52 (by decide) rfl (fun q => absurd q (by decide)) (fun _ => ?_)
  refine r_aload_n (n := 56) 1 dX10_init_55 rfl rfl ?_
  refine p_getR (n := 59) (x := 15) (m := 17) (a := 1) 1 (by decide +kernel) (by decide) cls_9 fi_9_1 (ps_obj (by decide +kernel)) gw_320 dX10_init_56 rfl ?_
  refine r_iload_n (n := 60) 0 dX10_init_59 rfl rfl ?_
  refine p_new (n := 63) (m := 17) (L' := [(18, 0), (18, 1), (15, 1), (15, 2), (15, 3), (1, 2), (1, 3), (1, 4), (1, 5), (1, 6), (1, 7), (1, 8), (1, 9), (1, 10), (1, 11), (1, 12), (1, 16)]) (mc := 110) (ms := 902) (by decide +kernel) (by decide +kernel) cls_8 ⟨gw_106, gw_108, gw_66⟩ dv_8 dX10_init_60 rfl ?_
  show ORuns g (d + 3) 110 902 iX10_init 63 [(1, .int 1), (0, .ref (og_b g + 1))] [.ref (og_b g + 18), .int 1, .ref (og_b g + 15)] (PS 18 [(18, 0), (18, 1), (15, 1), (15, 2), (15, 3), (1, 2), (1, 3), (1, 4), (1, 5), (1, 6), (1, 7), (1, 8), (1, 9), (1, 10), (1, 11), (1, 12), (1, 16)]) _
  refine r_dup (n := 64) dX10_init_63 rfl rfl ?_
  refine r_callIN (n := 67) (host := RX10) (a := 18) (mc' := 1) (ms' := 60) (mc := 109) (ms := 842) (As := []) (rest := [.ref (og_b g + 18), .int 1, .ref (og_b g + 15)]) cm_X9_init (fun U h => h.2.1.1.2.1) rfl (Nat.le_of_ble_eq_true rfl) dX10_init_64 rfl (ocall_mono (fun v h' e => ?_) (k_18 (d := d + 1)))
  obtain ⟨rfl, rfl⟩ := e
  show ORuns g (d + 3) 109 842 iX10_init 67 [(1, .int 1), (0, .ref (og_b g + 1))] [.ref (og_b g + 18), .int 1, .ref (og_b g + 15)] (PS 19 [(15, 1), (15, 2), (15, 3), (1, 2), (1, 3), (1, 4), (1, 5), (1, 6), (1, 7), (1, 8), (1, 9), (1, 10), (1, 11), (1, 12), (1, 16)]) _
  refine p_aast (n := 68) (m := 19) (a := 15) (v := 18) (j := 1) (L' := [(15, 2), (15, 3), (1, 2), (1, 3), (1, 4), (1, 5), (1, 6), (1, 7), (1, 8), (1, 9), (1, 10), (1, 11), (1, 12), (1, 16)]) (t := 15) (i0 := 4) (z := 4) (by decide +kernel) (by decide +kernel) (by decide) (ps_arr (by decide +kernel)) (by decide) (fun _ => rfl) (ps_obj (by decide +kernel)) ⟨cq_8.1, cq_8.2.1⟩ (vp_in_nI (n := 1) (N := 4) (by decide) (by decide)) dX10_init_67 rfl ?_
  refine r_iinc (n := 71) (v := 2) (lv' := [(1, .int 2), (0, .ref (og_b g + 1))]) 0 dX10_init_68 rfl (by decide) (by decide) rfl rfl ?_
  refine r_goto (n := 50) dX10_init_71 (by decide) ?_
  refine r_iload_n (n := 51) 0 dX10_init_50 rfl rfl ?_
  refine r_iconst (n := 52) (v := 4) dX10_init_51 (by decide) rfl ?_
  refine r_icmp_ge (n := 55) (tgt := 74) dX10_init_52 (by decide) rfl (fun q => absurd q (by decide)) (fun _ => ?_)
  refine r_aload_n (n := 56) 1 dX10_init_55 rfl rfl ?_
  refine p_getR (n := 59) (x := 15) (m := 19) (a := 1) 1 (by decide +kernel) (by decide) cls_9 fi_9_1 (ps_obj (by decide +kernel)) gw_320 dX10_init_56 rfl ?_
  refine r_iload_n (n := 60) 0 dX10_init_59 rfl rfl ?_
  refine p_new (n := 63) (m := 19) (L' := [(20, 0), (20, 1), (15, 2), (15, 3), (1, 2), (1, 3), (1, 4), (1, 5), (1, 6), (1, 7), (1, 8), (1, 9), (1, 10), (1, 11), (1, 12), (1, 16)]) (mc := 108) (ms := 840) (by decide +kernel) (by decide +kernel) cls_8 ⟨gw_106, gw_108, gw_66⟩ dv_8 dX10_init_60 rfl ?_
  show ORuns g (d + 3) 108 840 iX10_init 63 [(1, .int 2), (0, .ref (og_b g + 1))] [.ref (og_b g + 20), .int 2, .ref (og_b g + 15)] (PS 20 [(20, 0), (20, 1), (15, 2), (15, 3), (1, 2), (1, 3), (1, 4), (1, 5), (1, 6), (1, 7), (1, 8), (1, 9), (1, 10), (1, 11), (1, 12), (1, 16)]) _
  refine r_dup (n := 64) dX10_init_63 rfl rfl ?_
  refine r_callIN (n := 67) (host := RX10) (a := 20) (mc' := 1) (ms' := 60) (mc := 107) (ms := 780) (As := []) (rest := [.ref (og_b g + 20), .int 2, .ref (og_b g + 15)]) cm_X9_init (fun U h => h.2.1.1.2.1) rfl (Nat.le_of_ble_eq_true rfl) dX10_init_64 rfl (ocall_mono (fun v h' e => ?_) (k_20 (d := d + 1)))
  obtain ⟨rfl, rfl⟩ := e
  show ORuns g (d + 3) 107 780 iX10_init 67 [(1, .int 2), (0, .ref (og_b g + 1))] [.ref (og_b g + 20), .int 2, .ref (og_b g + 15)] (PS 21 [(15, 2), (15, 3), (1, 2), (1, 3), (1, 4), (1, 5), (1, 6), (1, 7), (1, 8), (1, 9), (1, 10), (1, 11), (1, 12), (1, 16)]) _
  refine p_aast (n := 68) (m := 21) (a := 15) (v := 20) (j := 2) (L' := [(15, 3), (1, 2), (1, 3), (1, 4), (1, 5), (1, 6), (1, 7), (1, 8), (1, 9), (1, 10), (1, 11), (1, 12), (1, 16)]) (t := 15) (i0 := 4) (z := 4) (by decide +kernel) (by decide +kernel) (by decide) (ps_arr (by decide +kernel)) (by decide) (fun _ => rfl) (ps_obj (by decide +kernel)) ⟨cq_8.1, cq_8.2.1⟩ (vp_in_nI (n := 2) (N := 4) (by decide) (by decide)) dX10_init_67 rfl ?_
  refine r_iinc (n := 71) (v := 3) (lv' := [(1, .int 3), (0, .ref (og_b g + 1))]) 0 dX10_init_68 rfl (by decide) (by decide) rfl rfl ?_
  refine r_goto (n := 50) dX10_init_71 (by decide) ?_
  refine r_iload_n (n := 51) 0 dX10_init_50 rfl rfl ?_
  refine r_iconst (n := 52) (v := 4) dX10_init_51 (by decide) rfl ?_
  refine r_icmp_ge (n := 55) (tgt := 74) dX10_init_52 (by decide) rfl (fun q => absurd q (by decide)) (fun _ => ?_)
  refine r_aload_n (n := 56) 1 dX10_init_55 rfl rfl ?_
  refine p_getR (n := 59) (x := 15) (m := 21) (a := 1) 1 (by decide +kernel) (by decide) cls_9 fi_9_1 (ps_obj (by decide +kernel)) gw_320 dX10_init_56 rfl ?_
  refine r_iload_n (n := 60) 0 dX10_init_59 rfl rfl ?_
  refine p_new (n := 63) (m := 21) (L' := [(22, 0), (22, 1), (15, 3), (1, 2), (1, 3), (1, 4), (1, 5), (1, 6), (1, 7), (1, 8), (1, 9), (1, 10), (1, 11), (1, 12), (1, 16)]) (mc := 106) (ms := 778) (by decide +kernel) (by decide +kernel) cls_8 ⟨gw_106, gw_108, gw_66⟩ dv_8 dX10_init_60 rfl ?_
  show ORuns g (d + 3) 106 778 iX10_init 63 [(1, .int 3), (0, .ref (og_b g + 1))] [.ref (og_b g + 22), .int 3, .ref (og_b g + 15)] (PS 22 [(22, 0), (22, 1), (15, 3), (1, 2), (1, 3), (1, 4), (1, 5), (1, 6), (1, 7), (1, 8), (1, 9), (1, 10), (1, 11), (1, 12), (1, 16)]) _
  refine r_dup (n := 64) dX10_init_63 rfl rfl ?_
  refine r_callIN (n := 67) (host := RX10) (a := 22) (mc' := 1) (ms' := 60) (mc := 105) (ms := 718) (As := []) (rest := [.ref (og_b g + 22), .int 3, .ref (og_b g + 15)]) cm_X9_init (fun U h => h.2.1.1.2.1) rfl (Nat.le_of_ble_eq_true rfl) dX10_init_64 rfl (ocall_mono (fun v h' e => ?_) (k_22 (d := d + 1)))
  obtain ⟨rfl, rfl⟩ := e
  show ORuns g (d + 3) 105 718 iX10_init 67 [(1, .int 3), (0, .ref (og_b g + 1))] [.ref (og_b g + 22), .int 3, .ref (og_b g + 15)] (PS 23 [(15, 3), (1, 2), (1, 3), (1, 4), (1, 5), (1, 6), (1, 7), (1, 8), (1, 9), (1, 10), (1, 11), (1, 12), (1, 16)]) _
  refine p_aast (n := 68) (m := 23) (a := 15) (v := 22) (j := 3) (L' := [(1, 2), (1, 3), (1, 4), (1, 5), (1, 6), (1, 7), (1, 8), (1, 9), (1, 10), (1, 11), (1, 12), (1, 16)]) (t := 15) (i0 := 4) (z := 4) (by decide +kernel) (by decide +kernel) (by decide) (ps_arr (by decide +kernel)) (by decide) (fun _ => rfl) (ps_obj (by decide +kernel)) ⟨cq_8.1, cq_8.2.1⟩ (vp_in_nI (n := 3) (N := 4) (by decide) (by decide)) dX10_init_67 rfl ?_
  refine r_iinc (n := 71) (v := 4) (lv' := [(1, .int 4), (0, .ref (og_b g + 1))]) 0 dX10_init_68 rfl (by decide) (by decide) rfl rfl ?_
  refine r_goto (n := 50) dX10_init_71 (by decide) ?_
  refine r_iload_n (n := 51) 0 dX10_init_50 rfl rfl ?_
  refine r_iconst (n := 52) (v := 4) dX10_init_51 (by decide) rfl ?_
  refine r_icmp_ge (n := 55) (tgt := 74) dX10_init_52 (by decide) rfl (fun _ => ?_) (fun q => absurd (by decide) q)
  refine r_aload_n (n := 75) 1 dX10_init_74 rfl rfl ?_
  refine p_new (n := 78) (m := 23) (L' := [(24, 0), (24, 1), (24, 2), (1, 2), (1, 3), (1, 4), (1, 5), (1, 6), (1, 7), (1, 8), (1, 9), (1, 10), (1, 11), (1, 12), (1, 16)]) (mc := 104) (ms := 713) (by decide +kernel) (by decide +kernel) cls_2 ⟨gw_122, gw_123, gw_67⟩ dv_2 dX10_init_75 rfl ?_
  show ORuns g (d + 3) 104 713 iX10_init 78 [(1, .int 4), (0, .ref (og_b g + 1))] [.ref (og_b g + 24), .ref (og_b g + 1)] (PS 24 [(24, 0), (24, 1), (24, 2), (1, 2), (1, 3), (1, 4), (1, 5), (1, 6), (1, 7), (1, 8), (1, 9), (1, 10), (1, 11), (1, 12), (1, 16)]) _
  refine r_dup (n := 79) dX10_init_78 rfl rfl ?_
  refine r_callIN (n := 82) (host := RX10) (a := 24) (mc' := 3) (ms' := 16) (mc := 101) (ms := 697) (As := []) (rest := [.ref (og_b g + 24), .ref (og_b g + 1)]) cm_X3_init (fun U h => h.2.1.1.2.2.1) rfl (Nat.le_of_ble_eq_true rfl) dX10_init_79 rfl (ocall_mono (fun v h' e => ?_) (k_24 (d := d + 1)))
  obtain ⟨rfl, rfl⟩ := e
  show ORuns g (d + 3) 101 697 iX10_init 82 [(1, .int 4), (0, .ref (og_b g + 1))] [.ref (og_b g + 24), .ref (og_b g + 1)] (PS 27 [(1, 2), (1, 3), (1, 4), (1, 5), (1, 6), (1, 7), (1, 8), (1, 9), (1, 10), (1, 11), (1, 12), (1, 16)]) _
  refine p_putR (n := 85) (v := 24) (m := 27) (a := 1) (L' := [(1, 3), (1, 4), (1, 5), (1, 6), (1, 7), (1, 8), (1, 9), (1, 10), (1, 11), (1, 12), (1, 16)]) 2 (by decide) (by decide +kernel) (by decide +kernel) cls_9 fi_9_2 (Or.inr ⟨rfl, rfl, rfl⟩) (fun _ => ⟨rfl, rfl⟩) (ps_obj (by decide +kernel)) gw_321 dX10_init_82 rfl ?_
  refine r_aload_n (n := 86) 1 dX10_init_85 rfl rfl ?_
  refine p_new (n := 89) (m := 27) (L' := [(28, 0), (28, 1), (28, 2), (1, 3), (1, 4), (1, 5), (1, 6), (1, 7), (1, 8), (1, 9), (1, 10), (1, 11), (1, 12), (1, 16)]) (mc := 100) (ms := 692) (by decide +kernel) (by decide +kernel) cls_0 ⟨gw_150, gw_151, gw_68⟩ dv_0 dX10_init_86 rfl ?_
  show ORuns g (d + 3) 100 692 iX10_init 89 [(1, .int 4), (0, .ref (og_b g + 1))] [.ref (og_b g + 28), .ref (og_b g + 1)] (PS 28 [(28, 0), (28, 1), (28, 2), (1, 3), (1, 4), (1, 5), (1, 6), (1, 7), (1, 8), (1, 9), (1, 10), (1, 11), (1, 12), (1, 16)]) _
  refine r_dup (n := 90) dX10_init_89 rfl rfl ?_
  refine r_aload_n (n := 91) 1 dX10_init_90 rfl rfl ?_
  refine p_getR (n := 94) (x := 24) (m := 28) (a := 1) 2 (by decide +kernel) (by decide) cls_9 fi_9_2 (ps_obj (by decide +kernel)) gw_321 dX10_init_91 rfl ?_
  refine r_callI (n := 97) (a := 28) (mc' := 7) (ms' := 74) (mc := 93) (ms := 618) (As := [.ref (og_b g + 24)]) (rest := [.ref (og_b g + 28), .ref (og_b g + 1)]) cm_X0_init gw_152 rfl (Nat.le_of_ble_eq_true rfl) dX10_init_94 rfl (ocall_mono (fun v h' e => ?_) (k_28))
  obtain ⟨rfl, rfl⟩ := e
  show ORuns g (d + 3) 93 618 iX10_init 97 [(1, .int 4), (0, .ref (og_b g + 1))] [.ref (og_b g + 28), .ref (og_b g + 1)] (PS 35 [(1, 3), (1, 4), (1, 5), (1, 6), (1, 7), (1, 8), (1, 9), (1, 10), (1, 11), (1, 12), (1, 16)]) _
  refine p_putR (n := 100) (v := 28) (m := 35) (a := 1) (L' := [(1, 4), (1, 5), (1, 6), (1, 7), (1, 8), (1, 9), (1, 10), (1, 11), (1, 12), (1, 16)]) 3 (by decide) (by decide +kernel) (by decide +kernel) cls_9 fi_9_3 (Or.inr ⟨rfl, rfl, rfl⟩) (fun _ => ⟨rfl, rfl⟩) (ps_obj (by decide +kernel)) gw_322 dX10_init_97 rfl ?_
  refine r_aload_n (n := 101) 1 dX10_init_100 rfl rfl ?_
  refine r_iconst (n := 102) (v := 3) dX10_init_101 (by decide) rfl ?_
  refine p_anew (n := 105) (m := 35) (L' := [(36, 0), (36, 1), (36, 2), (1, 4), (1, 5), (1, 6), (1, 7), (1, 8), (1, 9), (1, 10), (1, 11), (1, 12), (1, 16)]) (t := 16) (i0 := 5) (z := 3) (Z := 3) (mc := 92) (ms := 615) (by decide +kernel) (by decide +kernel) (by decide) (fun _ => rfl) gw_150 (fun _ h => h.2.2.1.2.2.1) (by decide) dX10_init_102 rfl ?_
  show ORuns g (d + 3) 92 615 iX10_init 105 [(1, .int 4), (0, .ref (og_b g + 1))] [.ref (og_b g + 36), .ref (og_b g + 1)] (PS 36 [(36, 0), (36, 1), (36, 2), (1, 4), (1, 5), (1, 6), (1, 7), (1, 8), (1, 9), (1, 10), (1, 11), (1, 12), (1, 16)]) _
  refine p_putR (n := 108) (v := 36) (m := 36) (a := 1) (L' := [(36, 0), (36, 1), (36, 2), (1, 5), (1, 6), (1, 7), (1, 8), (1, 9), (1, 10), (1, 11), (1, 12), (1, 16)]) 4 (by decide) (by decide +kernel) (by decide +kernel) cls_9 fi_9_4 (Or.inr ⟨rfl, rfl, rfl⟩) (fun _ => ⟨rfl, rfl⟩) (ps_obj (by decide +kernel)) gw_323 dX10_init_105 rfl ?_
  refine r_iconst (n := 109) (v := 0) dX10_init_108 (by decide) rfl ?_
  refine r_istore_n (n := 110) (lv' := [(1, .int 0), (0, .ref (og_b g + 1))]) dX10_init_109 rfl (by decide) rfl rfl ?_
  refine r_iload_n (n := 111) 0 dX10_init_110 rfl rfl ?_
  refine r_iconst (n := 112) (v := 3) dX10_init_111 (by decide) rfl ?_
  refine r_icmp_ge (n := 115) (tgt := 138) dX10_init_112 (by decide) rfl (fun q => absurd q (by decide)) (fun _ => ?_)
  refine r_aload_n (n := 116) 1 dX10_init_115 rfl rfl ?_
  refine p_getR (n := 119) (x := 36) (m := 36) (a := 1) 4 (by decide +kernel) (by decide) cls_9 fi_9_4 (ps_obj (by decide +kernel)) gw_323 dX10_init_116 rfl ?_
  refine r_iload_n (n := 120) 0 dX10_init_119 rfl rfl ?_
  refine p_new (n := 123) (m := 36) (L' := [(37, 0), (37, 1), (37, 2), (36, 0), (36, 1), (36, 2), (1, 5), (1, 6), (1, 7), (1, 8), (1, 9), (1, 10), (1, 11), (1, 12), (1, 16)]) (mc := 91) (ms := 610) (by decide +kernel) (by decide +kernel) cls_0 ⟨gw_150, gw_151, gw_68⟩ dv_0 dX10_init_120 rfl ?_
  show ORuns g (d + 3) 91 610 iX10_init 123 [(1, .int 0), (0, .ref (og_b g + 1))] [.ref (og_b g + 37), .int 0, .ref (og_b g + 36)] (PS 37 [(37, 0), (37, 1), (37, 2), (36, 0), (36, 1), (36, 2), (1, 5), (1, 6), (1, 7), (1, 8), (1, 9), (1, 10), (1, 11), (1, 12), (1, 16)]) _
  refine r_dup (n := 124) dX10_init_123 rfl rfl ?_
  refine r_aload_n (n := 125) 1 dX10_init_124 rfl rfl ?_
  refine p_getR (n := 128) (x := 24) (m := 37) (a := 1) 2 (by decide +kernel) (by decide) cls_9 fi_9_2 (ps_obj (by decide +kernel)) gw_321 dX10_init_125 rfl ?_
  refine r_callI (n := 131) (a := 37) (mc' := 7) (ms' := 74) (mc := 84) (ms := 536) (As := [.ref (og_b g + 24)]) (rest := [.ref (og_b g + 37), .int 0, .ref (og_b g + 36)]) cm_X0_init gw_152 rfl (Nat.le_of_ble_eq_true rfl) dX10_init_128 rfl (ocall_mono (fun v h' e => ?_) (k_37))
  obtain ⟨rfl, rfl⟩ := e
  show ORuns g (d + 3) 84 536 iX10_init 131 [(1, .int 0), (0, .ref (og_b g + 1))] [.ref (og_b g + 37), .int 0, .ref (og_b g + 36)] (PS 44 [(36, 0), (36, 1), (36, 2), (1, 5), (1, 6), (1, 7), (1, 8), (1, 9), (1, 10), (1, 11), (1, 12), (1, 16)]) _
  refine p_aast (n := 132) (m := 44) (a := 36) (v := 37) (j := 0) (L' := [(36, 1), (36, 2), (1, 5), (1, 6), (1, 7), (1, 8), (1, 9), (1, 10), (1, 11), (1, 12), (1, 16)]) (t := 16) (i0 := 5) (z := 3) (by decide +kernel) (by decide +kernel) (by decide) (ps_arr (by decide +kernel)) (by decide) (fun _ => rfl) (ps_obj (by decide +kernel)) ⟨cq_0.1, cq_0.2.1⟩ (vp_in_nI (n := 0) (N := 3) (by decide) (by decide)) dX10_init_131 rfl ?_
  refine r_iinc (n := 135) (v := 1) (lv' := [(1, .int 1), (0, .ref (og_b g + 1))]) 0 dX10_init_132 rfl (by decide) (by decide) rfl rfl ?_
  refine r_goto (n := 110) dX10_init_135 (by decide) ?_
  refine r_iload_n (n := 111) 0 dX10_init_110 rfl rfl ?_
  refine r_iconst (n := 112) (v := 3) dX10_init_111 (by decide) rfl ?_
  refine r_icmp_ge (n := 115) (tgt := 138) dX10_init_112 (by decide) rfl (fun q => absurd q (by decide)) (fun _ => ?_)
  refine r_aload_n (n := 116) 1 dX10_init_115 rfl rfl ?_
  refine p_getR (n := 119) (x := 36) (m := 44) (a := 1) 4 (by decide +kernel) (by decide) cls_9 fi_9_4 (ps_obj (by decide +kernel)) gw_323 dX10_init_116 rfl ?_
  refine r_iload_n (n := 120) 0 dX10_init_119 rfl rfl ?_
  refine p_new (n := 123) (m := 44) (L' := [(45, 0), (45, 1), (45, 2), (36, 1), (36, 2), (1, 5), (1, 6), (1, 7), (1, 8), (1, 9), (1, 10), (1, 11), (1, 12), (1, 16)]) (mc := 83) (ms := 531) (by decide +kernel) (by decide +kernel) cls_0 ⟨gw_150, gw_151, gw_68⟩ dv_0 dX10_init_120 rfl ?_
  show ORuns g (d + 3) 83 531 iX10_init 123 [(1, .int 1), (0, .ref (og_b g + 1))] [.ref (og_b g + 45), .int 1, .ref (og_b g + 36)] (PS 45 [(45, 0), (45, 1), (45, 2), (36, 1), (36, 2), (1, 5), (1, 6), (1, 7), (1, 8), (1, 9), (1, 10), (1, 11), (1, 12), (1, 16)]) _
  refine r_dup (n := 124) dX10_init_123 rfl rfl ?_
  refine r_aload_n (n := 125) 1 dX10_init_124 rfl rfl ?_
  refine p_getR (n := 128) (x := 24) (m := 45) (a := 1) 2 (by decide +kernel) (by decide) cls_9 fi_9_2 (ps_obj (by decide +kernel)) gw_321 dX10_init_125 rfl ?_
  refine r_callI (n := 131) (a := 45) (mc' := 7) (ms' := 74) (mc := 76) (ms := 457) (As := [.ref (og_b g + 24)]) (rest := [.ref (og_b g + 45), .int 1, .ref (og_b g + 36)]) cm_X0_init gw_152 rfl (Nat.le_of_ble_eq_true rfl) dX10_init_128 rfl (ocall_mono (fun v h' e => ?_) (k_45))
  obtain ⟨rfl, rfl⟩ := e
  show ORuns g (d + 3) 76 457 iX10_init 131 [(1, .int 1), (0, .ref (og_b g + 1))] [.ref (og_b g + 45), .int 1, .ref (og_b g + 36)] (PS 52 [(36, 1), (36, 2), (1, 5), (1, 6), (1, 7), (1, 8), (1, 9), (1, 10), (1, 11), (1, 12), (1, 16)]) _
  refine p_aast (n := 132) (m := 52) (a := 36) (v := 45) (j := 1) (L' := [(36, 2), (1, 5), (1, 6), (1, 7), (1, 8), (1, 9), (1, 10), (1, 11), (1, 12), (1, 16)]) (t := 16) (i0 := 5) (z := 3) (by decide +kernel) (by decide +kernel) (by decide) (ps_arr (by decide +kernel)) (by decide) (fun _ => rfl) (ps_obj (by decide +kernel)) ⟨cq_0.1, cq_0.2.1⟩ (vp_in_nI (n := 1) (N := 3) (by decide) (by decide)) dX10_init_131 rfl ?_
  refine r_iinc (n := 135) (v := 2) (lv' := [(1, .int 2), (0, .ref (og_b g + 1))]) 0 dX10_init_132 rfl (by decide) (by decide) rfl rfl ?_
  refine r_goto (n := 110) dX10_init_135 (by decide) ?_
  refine r_iload_n (n := 111) 0 dX10_init_110 rfl rfl ?_
  refine r_iconst (n := 112) (v := 3) dX10_init_111 (by decide) rfl ?_
  refine r_icmp_ge (n := 115) (tgt := 138) dX10_init_112 (by decide) rfl (fun q => absurd q (by decide)) (fun _ => ?_)
  refine r_aload_n (n := 116) 1 dX10_init_115 rfl rfl ?_
  refine p_getR (n := 119) (x := 36) (m := 52) (a := 1) 4 (by decide +kernel) (by decide) cls_9 fi_9_4 (ps_obj (by decide +kernel)) gw_323 dX10_init_116 rfl ?_
  refine r_iload_n (n := 120) 0 dX10_init_119 rfl rfl ?_
  refine p_new (n := 123) (m := 52) (L' := [(53, 0), (53, 1), (53, 2), (36, 2), (1, 5), (1, 6), (1, 7), (1, 8), (1, 9), (1, 10), (1, 11), (1, 12), (1, 16)]) (mc := 75) (ms := 452) (by decide +kernel) (by decide +kernel) cls_0 ⟨gw_150, gw_151, gw_68⟩ dv_0 dX10_init_120 rfl ?_
  show ORuns g (d + 3) 75 452 iX10_init 123 [(1, .int 2), (0, .ref (og_b g + 1))] [.ref (og_b g + 53), .int 2, .ref (og_b g + 36)] (PS 53 [(53, 0), (53, 1), (53, 2), (36, 2), (1, 5), (1, 6), (1, 7), (1, 8), (1, 9), (1, 10), (1, 11), (1, 12), (1, 16)]) _
  refine r_dup (n := 124) dX10_init_123 rfl rfl ?_
  refine r_aload_n (n := 125) 1 dX10_init_124 rfl rfl ?_
  refine p_getR (n := 128) (x := 24) (m := 53) (a := 1) 2 (by decide +kernel) (by decide) cls_9 fi_9_2 (ps_obj (by decide +kernel)) gw_321 dX10_init_125 rfl ?_
  refine r_callI (n := 131) (a := 53) (mc' := 7) (ms' := 74) (mc := 68) (ms := 378) (As := [.ref (og_b g + 24)]) (rest := [.ref (og_b g + 53), .int 2, .ref (og_b g + 36)]) cm_X0_init gw_152 rfl (Nat.le_of_ble_eq_true rfl) dX10_init_128 rfl (ocall_mono (fun v h' e => ?_) (k_53))
  obtain ⟨rfl, rfl⟩ := e
  show ORuns g (d + 3) 68 378 iX10_init 131 [(1, .int 2), (0, .ref (og_b g + 1))] [.ref (og_b g + 53), .int 2, .ref (og_b g + 36)] (PS 60 [(36, 2), (1, 5), (1, 6), (1, 7), (1, 8), (1, 9), (1, 10), (1, 11), (1, 12), (1, 16)]) _
  refine p_aast (n := 132) (m := 60) (a := 36) (v := 53) (j := 2) (L' := [(1, 5), (1, 6), (1, 7), (1, 8), (1, 9), (1, 10), (1, 11), (1, 12), (1, 16)]) (t := 16) (i0 := 5) (z := 3) (by decide +kernel) (by decide +kernel) (by decide) (ps_arr (by decide +kernel)) (by decide) (fun _ => rfl) (ps_obj (by decide +kernel)) ⟨cq_0.1, cq_0.2.1⟩ (vp_in_nI (n := 2) (N := 3) (by decide) (by decide)) dX10_init_131 rfl ?_
  refine r_iinc (n := 135) (v := 3) (lv' := [(1, .int 3), (0, .ref (og_b g + 1))]) 0 dX10_init_132 rfl (by decide) (by decide) rfl rfl ?_
  refine r_goto (n := 110) dX10_init_135 (by decide) ?_
  refine r_iload_n (n := 111) 0 dX10_init_110 rfl rfl ?_
  refine r_iconst (n := 112) (v := 3) dX10_init_111 (by decide) rfl ?_
  refine r_icmp_ge (n := 115) (tgt := 138) dX10_init_112 (by decide) rfl (fun _ => ?_) (fun q => absurd (by decide) q)
  refine r_aload_n (n := 139) 1 dX10_init_138 rfl rfl ?_
  refine p_new (n := 142) (m := 60) (L' := [(1, 5), (1, 6), (1, 7), (1, 8), (1, 9), (1, 10), (1, 11), (1, 12), (1, 16)]) (mc := 67) (ms := 378) (by decide +kernel) (by decide +kernel) cls_5 ⟨gw_210, gw_211, gw_70⟩ dv_5 dX10_init_139 rfl ?_
  show ORuns g (d + 3) 67 378 iX10_init 142 [(1, .int 3), (0, .ref (og_b g + 1))] [.ref (og_b g + 61), .ref (og_b g + 1)] (PS 61 [(1, 5), (1, 6), (1, 7), (1, 8), (1, 9), (1, 10), (1, 11), (1, 12), (1, 16)]) _
  refine r_dup (n := 143) dX10_init_142 rfl rfl ?_
  refine r_callIN (n := 146) (host := RX10) (a := 61) (mc' := 0) (ms' := 0) (mc := 67) (ms := 378) (As := []) (rest := [.ref (og_b g + 61), .ref (og_b g + 1)]) cm_X6_init (fun U h => h.2.1.1.2.2.2) rfl (Nat.le_of_ble_eq_true rfl) dX10_init_143 rfl (ocall_mono (fun v h' e => ?_) (k_61 (d := d + 1)))
  obtain ⟨rfl, rfl⟩ := e
  show ORuns g (d + 3) 67 378 iX10_init 146 [(1, .int 3), (0, .ref (og_b g + 1))] [.ref (og_b g + 61), .ref (og_b g + 1)] (PS 61 [(1, 5), (1, 6), (1, 7), (1, 8), (1, 9), (1, 10), (1, 11), (1, 12), (1, 16)]) _
  refine p_putR (n := 149) (v := 61) (m := 61) (a := 1) (L' := [(1, 6), (1, 7), (1, 8), (1, 9), (1, 10), (1, 11), (1, 12), (1, 16)]) 5 (by decide) (by decide +kernel) (by decide +kernel) cls_9 fi_9_5 (Or.inr ⟨rfl, rfl, rfl⟩) (fun _ => ⟨rfl, rfl⟩) (ps_obj (by decide +kernel)) gw_324 dX10_init_146 rfl ?_
  refine r_aload_n (n := 150) 1 dX10_init_149 rfl rfl ?_
  refine p_new (n := 153) (m := 61) (L' := [(62, 0), (62, 1), (62, 2), (1, 6), (1, 7), (1, 8), (1, 9), (1, 10), (1, 11), (1, 12), (1, 16)]) (mc := 66) (ms := 373) (by decide +kernel) (by decide +kernel) cls_2 ⟨gw_122, gw_123, gw_67⟩ dv_2 dX10_init_150 rfl ?_
  show ORuns g (d + 3) 66 373 iX10_init 153 [(1, .int 3), (0, .ref (og_b g + 1))] [.ref (og_b g + 62), .ref (og_b g + 1)] (PS 62 [(62, 0), (62, 1), (62, 2), (1, 6), (1, 7), (1, 8), (1, 9), (1, 10), (1, 11), (1, 12), (1, 16)]) _
  refine r_dup (n := 154) dX10_init_153 rfl rfl ?_
  refine r_callIN (n := 157) (host := RX10) (a := 62) (mc' := 3) (ms' := 16) (mc := 63) (ms := 357) (As := []) (rest := [.ref (og_b g + 62), .ref (og_b g + 1)]) cm_X3_init (fun U h => h.2.1.1.2.2.1) rfl (Nat.le_of_ble_eq_true rfl) dX10_init_154 rfl (ocall_mono (fun v h' e => ?_) (k_62 (d := d + 1)))
  obtain ⟨rfl, rfl⟩ := e
  show ORuns g (d + 3) 63 357 iX10_init 157 [(1, .int 3), (0, .ref (og_b g + 1))] [.ref (og_b g + 62), .ref (og_b g + 1)] (PS 65 [(1, 6), (1, 7), (1, 8), (1, 9), (1, 10), (1, 11), (1, 12), (1, 16)]) _
  refine p_putR (n := 160) (v := 62) (m := 65) (a := 1) (L' := [(1, 7), (1, 8), (1, 9), (1, 10), (1, 11), (1, 12), (1, 16)]) 6 (by decide) (by decide +kernel) (by decide +kernel) cls_9 fi_9_6 (Or.inr ⟨rfl, rfl, rfl⟩) (fun _ => ⟨rfl, rfl⟩) (ps_obj (by decide +kernel)) gw_325 dX10_init_157 rfl ?_
  refine r_aload_n (n := 161) 1 dX10_init_160 rfl rfl ?_
  refine p_new (n := 164) (m := 65) (L' := [(66, 0), (66, 1), (66, 2), (1, 7), (1, 8), (1, 9), (1, 10), (1, 11), (1, 12), (1, 16)]) (mc := 62) (ms := 350) (by decide +kernel) (by decide +kernel) cls_1 ⟨gw_217, gw_157, gw_69⟩ dv_1 dX10_init_161 rfl ?_
  show ORuns g (d + 3) 62 350 iX10_init 164 [(1, .int 3), (0, .ref (og_b g + 1))] [.ref (og_b g + 66), .ref (og_b g + 1)] (PS 66 [(66, 0), (66, 1), (66, 2), (1, 7), (1, 8), (1, 9), (1, 10), (1, 11), (1, 12), (1, 16)]) _
  refine r_dup (n := 165) dX10_init_164 rfl rfl ?_
  refine r_aload_n (n := 166) 1 dX10_init_165 rfl rfl ?_
  refine p_getR (n := 169) (x := 62) (m := 66) (a := 1) 6 (by decide +kernel) (by decide) cls_9 fi_9_6 (ps_obj (by decide +kernel)) gw_325 dX10_init_166 rfl ?_
  refine r_callI (n := 172) (a := 66) (mc' := 2) (ms' := 10) (mc := 60) (ms := 340) (As := [.ref (og_b g + 62)]) (rest := [.ref (og_b g + 66), .ref (og_b g + 1)]) cm_X1_init gw_218 rfl (Nat.le_of_ble_eq_true rfl) dX10_init_169 rfl (ocall_mono (fun v h' e => ?_) (k_66 (d := d + 1)))
  obtain ⟨rfl, rfl⟩ := e
  show ORuns g (d + 3) 60 340 iX10_init 172 [(1, .int 3), (0, .ref (og_b g + 1))] [.ref (og_b g + 66), .ref (og_b g + 1)] (PS 68 [(1, 7), (1, 8), (1, 9), (1, 10), (1, 11), (1, 12), (1, 16)]) _
  refine p_putR (n := 175) (v := 66) (m := 68) (a := 1) (L' := [(1, 8), (1, 9), (1, 10), (1, 11), (1, 12), (1, 16)]) 7 (by decide) (by decide +kernel) (by decide +kernel) cls_9 fi_9_7 (Or.inr ⟨rfl, rfl, rfl⟩) (fun _ => ⟨rfl, rfl⟩) (ps_obj (by decide +kernel)) gw_326 dX10_init_172 rfl ?_
  refine r_aload_n (n := 176) 1 dX10_init_175 rfl rfl ?_
  refine p_new (n := 179) (m := 68) (L' := [(69, 0), (69, 1), (69, 2), (1, 8), (1, 9), (1, 10), (1, 11), (1, 12), (1, 16)]) (mc := 59) (ms := 333) (by decide +kernel) (by decide +kernel) cls_1 ⟨gw_217, gw_157, gw_69⟩ dv_1 dX10_init_176 rfl ?_
  show ORuns g (d + 3) 59 333 iX10_init 179 [(1, .int 3), (0, .ref (og_b g + 1))] [.ref (og_b g + 69), .ref (og_b g + 1)] (PS 69 [(69, 0), (69, 1), (69, 2), (1, 8), (1, 9), (1, 10), (1, 11), (1, 12), (1, 16)]) _
  refine r_dup (n := 180) dX10_init_179 rfl rfl ?_
  refine r_aload_n (n := 181) 1 dX10_init_180 rfl rfl ?_
  refine p_getR (n := 184) (x := 24) (m := 69) (a := 1) 2 (by decide +kernel) (by decide) cls_9 fi_9_2 (ps_obj (by decide +kernel)) gw_321 dX10_init_181 rfl ?_
  refine r_callI (n := 187) (a := 69) (mc' := 2) (ms' := 10) (mc := 57) (ms := 323) (As := [.ref (og_b g + 24)]) (rest := [.ref (og_b g + 69), .ref (og_b g + 1)]) cm_X1_init gw_218 rfl (Nat.le_of_ble_eq_true rfl) dX10_init_184 rfl (ocall_mono (fun v h' e => ?_) (k_69 (d := d + 1)))
  obtain ⟨rfl, rfl⟩ := e
  show ORuns g (d + 3) 57 323 iX10_init 187 [(1, .int 3), (0, .ref (og_b g + 1))] [.ref (og_b g + 69), .ref (og_b g + 1)] (PS 71 [(1, 8), (1, 9), (1, 10), (1, 11), (1, 12), (1, 16)]) _
  refine p_putR (n := 190) (v := 69) (m := 71) (a := 1) (L' := [(1, 9), (1, 10), (1, 11), (1, 12), (1, 16)]) 8 (by decide) (by decide +kernel) (by decide +kernel) cls_9 fi_9_8 (Or.inr ⟨rfl, rfl, rfl⟩) (fun _ => ⟨rfl, rfl⟩) (ps_obj (by decide +kernel)) gw_327 dX10_init_187 rfl ?_
  refine r_aload_n (n := 191) 1 dX10_init_190 rfl rfl ?_
  refine p_new (n := 194) (m := 71) (L' := [(72, 0), (72, 1), (72, 2), (72, 6), (1, 9), (1, 10), (1, 11), (1, 12), (1, 16)]) (mc := 56) (ms := 313) (by decide +kernel) (by decide +kernel) cls_4 ⟨gw_219, gw_220, gw_71⟩ dv_4 dX10_init_191 rfl ?_
  show ORuns g (d + 3) 56 313 iX10_init 194 [(1, .int 3), (0, .ref (og_b g + 1))] [.ref (og_b g + 72), .ref (og_b g + 1)] (PS 72 [(72, 0), (72, 1), (72, 2), (72, 6), (1, 9), (1, 10), (1, 11), (1, 12), (1, 16)]) _
  refine r_dup (n := 195) dX10_init_194 rfl rfl ?_
  refine r_aload_n (n := 196) 1 dX10_init_195 rfl rfl ?_
  refine p_getR (n := 199) (x := 24) (m := 72) (a := 1) 2 (by decide +kernel) (by decide) cls_9 fi_9_2 (ps_obj (by decide +kernel)) gw_321 dX10_init_196 rfl ?_
  refine r_callI (n := 202) (a := 72) (mc' := 18) (ms' := 98) (mc := 38) (ms := 215) (As := [.ref (og_b g + 24)]) (rest := [.ref (og_b g + 72), .ref (og_b g + 1)]) cm_X5_init gw_221 rfl (Nat.le_of_ble_eq_true rfl) dX10_init_199 rfl (ocall_mono (fun v h' e => ?_) (k_72))
  obtain ⟨rfl, rfl⟩ := e
  show ORuns g (d + 3) 38 215 iX10_init 202 [(1, .int 3), (0, .ref (og_b g + 1))] [.ref (og_b g + 72), .ref (og_b g + 1)] (PS 90 [(1, 9), (1, 10), (1, 11), (1, 12), (1, 16)]) _
  refine p_putR (n := 205) (v := 72) (m := 90) (a := 1) (L' := [(1, 10), (1, 11), (1, 12), (1, 16)]) 9 (by decide) (by decide +kernel) (by decide +kernel) cls_9 fi_9_9 (Or.inr ⟨rfl, rfl, rfl⟩) (fun _ => ⟨rfl, rfl⟩) (ps_obj (by decide +kernel)) gw_328 dX10_init_202 rfl ?_
  refine r_aload_n (n := 206) 1 dX10_init_205 rfl rfl ?_
  refine p_new (n := 209) (m := 90) (L' := [(91, 0), (91, 1), (1, 10), (1, 11), (1, 12), (1, 16)]) (mc := 37) (ms := 210) (by decide +kernel) (by decide +kernel) cls_7 ⟨gw_264, gw_265, gw_72⟩ dv_7 dX10_init_206 rfl ?_
  show ORuns g (d + 3) 37 210 iX10_init 209 [(1, .int 3), (0, .ref (og_b g + 1))] [.ref (og_b g + 91), .ref (og_b g + 1)] (PS 91 [(91, 0), (91, 1), (1, 10), (1, 11), (1, 12), (1, 16)]) _
  refine r_dup (n := 210) dX10_init_209 rfl rfl ?_
  refine r_aload_n (n := 211) 1 dX10_init_210 rfl rfl ?_
  refine p_getR (n := 214) (x := 24) (m := 91) (a := 1) 2 (by decide +kernel) (by decide) cls_9 fi_9_2 (ps_obj (by decide +kernel)) gw_321 dX10_init_211 rfl ?_
  refine r_callI (n := 217) (a := 91) (mc' := 19) (ms' := 108) (mc := 18) (ms := 102) (As := [.ref (og_b g + 24)]) (rest := [.ref (og_b g + 91), .ref (og_b g + 1)]) cm_X8_init gw_266 rfl (Nat.le_of_ble_eq_true rfl) dX10_init_214 rfl (ocall_mono (fun v h' e => ?_) (k_91))
  obtain ⟨rfl, rfl⟩ := e
  show ORuns g (d + 3) 18 102 iX10_init 217 [(1, .int 3), (0, .ref (og_b g + 1))] [.ref (og_b g + 91), .ref (og_b g + 1)] (PS 110 [(1, 10), (1, 11), (1, 12), (1, 16)]) _
  refine p_putR (n := 220) (v := 91) (m := 110) (a := 1) (L' := [(1, 11), (1, 12), (1, 16)]) 10 (by decide) (by decide +kernel) (by decide +kernel) cls_9 fi_9_10 (Or.inr ⟨rfl, rfl, rfl⟩) (fun _ => ⟨rfl, rfl⟩) (ps_obj (by decide +kernel)) gw_329 dX10_init_217 rfl ?_
  refine r_aload_n (n := 221) 1 dX10_init_220 rfl rfl ?_
  refine p_new (n := 224) (m := 110) (L' := [(111, 0), (111, 5), (1, 11), (1, 12), (1, 16)]) (mc := 17) (ms := 96) (by decide +kernel) (by decide +kernel) cls_3 ⟨gw_290, gw_291, gw_73⟩ dv_3 dX10_init_221 rfl ?_
  show ORuns g (d + 3) 17 96 iX10_init 224 [(1, .int 3), (0, .ref (og_b g + 1))] [.ref (og_b g + 111), .ref (og_b g + 1)] (PS 111 [(111, 0), (111, 5), (1, 11), (1, 12), (1, 16)]) _
  refine r_dup (n := 225) dX10_init_224 rfl rfl ?_
  refine r_aload_n (n := 226) 1 dX10_init_225 rfl rfl ?_
  refine p_getR (n := 229) (x := 24) (m := 111) (a := 1) 2 (by decide +kernel) (by decide) cls_9 fi_9_2 (ps_obj (by decide +kernel)) gw_321 dX10_init_226 rfl ?_
  refine r_callI (n := 232) (a := 111) (mc' := 16) (ms' := 90) (mc := 1) (ms := 6) (As := [.ref (og_b g + 24)]) (rest := [.ref (og_b g + 111), .ref (og_b g + 1)]) cm_X4_init gw_292 rfl (Nat.le_of_ble_eq_true rfl) dX10_init_229 rfl (ocall_mono (fun v h' e => ?_) (k_111))
  obtain ⟨rfl, rfl⟩ := e
  show ORuns g (d + 3) 1 6 iX10_init 232 [(1, .int 3), (0, .ref (og_b g + 1))] [.ref (og_b g + 111), .ref (og_b g + 1)] (PS 127 [(1, 11), (1, 12), (1, 16)]) _
  refine p_putR (n := 235) (v := 111) (m := 127) (a := 1) (L' := [(1, 12), (1, 16)]) 11 (by decide) (by decide +kernel) (by decide +kernel) cls_9 fi_9_11 (Or.inr ⟨rfl, rfl, rfl⟩) (fun _ => ⟨rfl, rfl⟩) (ps_obj (by decide +kernel)) gw_330 dX10_init_232 rfl ?_
  refine r_aload_n (n := 236) 1 dX10_init_235 rfl rfl ?_
  refine r_bipush (n := 238) (v := 6) dX10_init_236 (by decide) rfl ?_
  refine p_newarr (n := 240) (m := 127) (L' := [(1, 12), (1, 16)]) (t := 11) (i0 := 0) (fty := .int) (z := 6) (Z := 6) (mc := 0) (ms := 0) (by decide +kernel) (by decide +kernel) rfl (by decide) (fun _ => rfl) rfl na_int gw_105 (by decide) dX10_init_238 rfl ?_
  show ORuns g (d + 3) 0 0 iX10_init 240 [(1, .int 3), (0, .ref (og_b g + 1))] [.ref (og_b g + 128), .ref (og_b g + 1)] (PS 128 [(1, 12), (1, 16)]) _
  refine p_putR (n := 243) (v := 128) (m := 128) (a := 1) (L' := [(1, 16)]) 12 (by decide) (by decide +kernel) (by decide +kernel) cls_9 fi_9_12 (Or.inr ⟨rfl, rfl, rfl⟩) (fun _ => ⟨rfl, rfl⟩) (ps_obj (by decide +kernel)) gw_331 dX10_init_240 rfl ?_
  refine r_aload_n (n := 244) 1 dX10_init_243 rfl rfl ?_
  refine r_iconst (n := 245) (v := 0) dX10_init_244 (by decide) rfl ?_
  refine p_putI (n := 248) (m := 128) (a := 1) (L' := [(1, 16)]) 13 (by decide +kernel) (by decide +kernel) cls_9 fp_9_13 (ps_obj (by decide +kernel)) gw_332 dX10_init_245 rfl ?_
  refine r_aload_n (n := 249) 1 dX10_init_248 rfl rfl ?_
  refine r_iconst (n := 250) (v := 0) dX10_init_249 (by decide) rfl ?_
  refine p_putI (n := 253) (m := 128) (a := 1) (L' := [(1, 16)]) 14 (by decide +kernel) (by decide +kernel) cls_9 fp_9_14 (ps_obj (by decide +kernel)) gw_333 dX10_init_250 rfl ?_
  refine r_aload_n (n := 254) 1 dX10_init_253 rfl rfl ?_
  refine r_lconst (n := 255) (v := 0) dX10_init_254 (by decide) rfl ?_
  refine p_putL (n := 258) (m := 128) (a := 1) (L' := [(1, 16)]) 15 (by decide +kernel) (by decide +kernel) cls_9 fp_9_15 (ps_obj (by decide +kernel)) gw_334 dX10_init_255 rfl ?_
  refine r_aload_n (n := 259) 1 dX10_init_258 rfl rfl ?_
  refine r_lconst (n := 260) (v := 1) dX10_init_259 (by decide) rfl ?_
  refine p_putL (n := 263) (m := 128) (a := 1) (L' := []) 16 (by decide +kernel) (by decide +kernel) cls_9 fp_9_16 (ps_obj (by decide +kernel)) gw_335 dX10_init_260 rfl ?_
  exact r_vret (st := []) dX10_init_263 rfl rfl
set_option maxRecDepth 20000 in
theorem k_129 {g : OG} {d : Nat} : OCall g (d + 1) 21 3826 iX11_init [.ref (og_b g + 129)] (PS 129 [(129, 1), (129, 4), (129, 5), (129, 6), (129, 7), (129, 8), (129, 9), (129, 12), (129, 13), (129, 14), (129, 18), (129, 19), (129, 20), (129, 21), (129, 23), (129, 24), (129, 25), (129, 26), (129, 27), (129, 28), (129, 29), (129, 30)]) (QV (fun h' => h' = PS 150 [])) := by
  refine ocall_of (by decide) (Nat.le_of_ble_eq_true rfl) ?_
  show ORuns g (d + 1) 21 3826 iX11_init 0 [(0, .ref (og_b g + 129))] [] (PS 129 [(129, 1), (129, 4), (129, 5), (129, 6), (129, 7), (129, 8), (129, 9), (129, 12), (129, 13), (129, 14), (129, 18), (129, 19), (129, 20), (129, 21), (129, 23), (129, 24), (129, 25), (129, 26), (129, 27), (129, 28), (129, 29), (129, 30)]) _
  refine r_aload_n (n := 1) 0 dX11_init_0 rfl rfl ?_
  refine r_objInit (n := 4) gw_1025 ⟨gw_85, gw_86⟩ (Nat.le_of_ble_eq_true rfl) dX11_init_1 rfl ?_
  refine r_aload_n (n := 5) 0 dX11_init_4 rfl rfl ?_
  refine r_bipush (n := 7) (v := 6) dX11_init_5 (by decide) rfl ?_
  refine p_newarr (n := 9) (m := 129) (L' := [(129, 1), (129, 4), (129, 5), (129, 6), (129, 7), (129, 8), (129, 9), (129, 12), (129, 13), (129, 14), (129, 18), (129, 19), (129, 20), (129, 21), (129, 23), (129, 24), (129, 25), (129, 26), (129, 27), (129, 28), (129, 29), (129, 30)]) (t := 11) (i0 := 0) (fty := .int) (z := 6) (Z := 6) (mc := 20) (ms := 3820) (by decide +kernel) (by decide +kernel) rfl (by decide) (fun _ => rfl) rfl na_int gw_105 (by decide) dX11_init_7 rfl ?_
  show ORuns g (d + 1) 20 3820 iX11_init 9 [(0, .ref (og_b g + 129))] [.ref (og_b g + 130), .ref (og_b g + 129)] (PS 130 [(129, 1), (129, 4), (129, 5), (129, 6), (129, 7), (129, 8), (129, 9), (129, 12), (129, 13), (129, 14), (129, 18), (129, 19), (129, 20), (129, 21), (129, 23), (129, 24), (129, 25), (129, 26), (129, 27), (129, 28), (129, 29), (129, 30)]) _
  refine p_putR (n := 12) (v := 130) (m := 130) (a := 129) (L' := [(129, 4), (129, 5), (129, 6), (129, 7), (129, 8), (129, 9), (129, 12), (129, 13), (129, 14), (129, 18), (129, 19), (129, 20), (129, 21), (129, 23), (129, 24), (129, 25), (129, 26), (129, 27), (129, 28), (129, 29), (129, 30)]) 1 (by decide) (by decide +kernel) (by decide +kernel) cls_10 fi_10_1 (Or.inr ⟨rfl, rfl, rfl⟩) (fun _ => ⟨rfl, rfl⟩) (ps_obj (by decide +kernel)) gw_1027 dX11_init_9 rfl ?_
  refine r_aload_n (n := 13) 0 dX11_init_12 rfl rfl ?_
  refine r_lconst (n := 14) (v := 1) dX11_init_13 (by decide) rfl ?_
  refine p_putL (n := 17) (m := 130) (a := 129) (L' := [(129, 5), (129, 6), (129, 7), (129, 8), (129, 9), (129, 12), (129, 13), (129, 14), (129, 18), (129, 19), (129, 20), (129, 21), (129, 23), (129, 24), (129, 25), (129, 26), (129, 27), (129, 28), (129, 29), (129, 30)]) 4 (by decide +kernel) (by decide +kernel) cls_10 fp_10_4 (ps_obj (by decide +kernel)) gw_1030 dX11_init_14 rfl ?_
  refine r_aload_n (n := 18) 0 dX11_init_17 rfl rfl ?_
  refine r_bipush (n := 20) (v := 6) dX11_init_18 (by decide) rfl ?_
  refine p_newarr (n := 22) (m := 130) (L' := [(131, 0), (131, 1), (131, 2), (131, 3), (131, 4), (131, 5), (129, 5), (129, 6), (129, 7), (129, 8), (129, 9), (129, 12), (129, 13), (129, 14), (129, 18), (129, 19), (129, 20), (129, 21), (129, 23), (129, 24), (129, 25), (129, 26), (129, 27), (129, 28), (129, 29), (129, 30)]) (t := 11) (i0 := 0) (fty := .int) (z := 6) (Z := 6) (mc := 19) (ms := 3814) (by decide +kernel) (by decide +kernel) rfl (by decide) (fun _ => rfl) rfl na_int gw_105 (by decide) dX11_init_20 rfl ?_
  show ORuns g (d + 1) 19 3814 iX11_init 22 [(0, .ref (og_b g + 129))] [.ref (og_b g + 131), .ref (og_b g + 129)] (PS 131 [(131, 0), (131, 1), (131, 2), (131, 3), (131, 4), (131, 5), (129, 5), (129, 6), (129, 7), (129, 8), (129, 9), (129, 12), (129, 13), (129, 14), (129, 18), (129, 19), (129, 20), (129, 21), (129, 23), (129, 24), (129, 25), (129, 26), (129, 27), (129, 28), (129, 29), (129, 30)]) _
  refine p_putR (n := 25) (v := 131) (m := 131) (a := 129) (L' := [(131, 0), (131, 1), (131, 2), (131, 3), (131, 4), (131, 5), (129, 6), (129, 7), (129, 8), (129, 9), (129, 12), (129, 13), (129, 14), (129, 18), (129, 19), (129, 20), (129, 21), (129, 23), (129, 24), (129, 25), (129, 26), (129, 27), (129, 28), (129, 29), (129, 30)]) 5 (by decide) (by decide +kernel) (by decide +kernel) cls_10 fi_10_5 (Or.inr ⟨rfl, rfl, rfl⟩) (fun _ => ⟨rfl, rfl⟩) (ps_obj (by decide +kernel)) gw_1031 dX11_init_22 rfl ?_
  refine r_aload_n (n := 26) 0 dX11_init_25 rfl rfl ?_
  refine r_sipush (n := 29) (v := 240) dX11_init_26 (by decide) rfl ?_
  refine p_newarr (n := 31) (m := 131) (L' := [(131, 0), (131, 1), (131, 2), (131, 3), (131, 4), (131, 5), (129, 6), (129, 7), (129, 8), (129, 9), (129, 12), (129, 13), (129, 14), (129, 18), (129, 19), (129, 20), (129, 21), (129, 23), (129, 24), (129, 25), (129, 26), (129, 27), (129, 28), (129, 29), (129, 30)]) (t := 11) (i0 := 0) (fty := .int) (z := 240) (Z := 240) (mc := 18) (ms := 3574) (by decide +kernel) (by decide +kernel) rfl (by decide) (fun _ => rfl) rfl na_int gw_105 (by decide) dX11_init_29 rfl ?_
  show ORuns g (d + 1) 18 3574 iX11_init 31 [(0, .ref (og_b g + 129))] [.ref (og_b g + 132), .ref (og_b g + 129)] (PS 132 [(131, 0), (131, 1), (131, 2), (131, 3), (131, 4), (131, 5), (129, 6), (129, 7), (129, 8), (129, 9), (129, 12), (129, 13), (129, 14), (129, 18), (129, 19), (129, 20), (129, 21), (129, 23), (129, 24), (129, 25), (129, 26), (129, 27), (129, 28), (129, 29), (129, 30)]) _
  refine p_putR (n := 34) (v := 132) (m := 132) (a := 129) (L' := [(131, 0), (131, 1), (131, 2), (131, 3), (131, 4), (131, 5), (129, 7), (129, 8), (129, 9), (129, 12), (129, 13), (129, 14), (129, 18), (129, 19), (129, 20), (129, 21), (129, 23), (129, 24), (129, 25), (129, 26), (129, 27), (129, 28), (129, 29), (129, 30)]) 6 (by decide) (by decide +kernel) (by decide +kernel) cls_10 fi_10_6 (Or.inr ⟨rfl, rfl, rfl⟩) (fun _ => ⟨rfl, rfl⟩) (ps_obj (by decide +kernel)) gw_1032 dX11_init_31 rfl ?_
  refine r_aload_n (n := 35) 0 dX11_init_34 rfl rfl ?_
  refine r_bipush (n := 37) (v := 40) dX11_init_35 (by decide) rfl ?_
  refine p_newarr (n := 39) (m := 132) (L' := [(131, 0), (131, 1), (131, 2), (131, 3), (131, 4), (131, 5), (129, 7), (129, 8), (129, 9), (129, 12), (129, 13), (129, 14), (129, 18), (129, 19), (129, 20), (129, 21), (129, 23), (129, 24), (129, 25), (129, 26), (129, 27), (129, 28), (129, 29), (129, 30)]) (t := 11) (i0 := 0) (fty := .int) (z := 40) (Z := 40) (mc := 17) (ms := 3534) (by decide +kernel) (by decide +kernel) rfl (by decide) (fun _ => rfl) rfl na_int gw_105 (by decide) dX11_init_37 rfl ?_
  show ORuns g (d + 1) 17 3534 iX11_init 39 [(0, .ref (og_b g + 129))] [.ref (og_b g + 133), .ref (og_b g + 129)] (PS 133 [(131, 0), (131, 1), (131, 2), (131, 3), (131, 4), (131, 5), (129, 7), (129, 8), (129, 9), (129, 12), (129, 13), (129, 14), (129, 18), (129, 19), (129, 20), (129, 21), (129, 23), (129, 24), (129, 25), (129, 26), (129, 27), (129, 28), (129, 29), (129, 30)]) _
  refine p_putR (n := 42) (v := 133) (m := 133) (a := 129) (L' := [(131, 0), (131, 1), (131, 2), (131, 3), (131, 4), (131, 5), (129, 8), (129, 9), (129, 12), (129, 13), (129, 14), (129, 18), (129, 19), (129, 20), (129, 21), (129, 23), (129, 24), (129, 25), (129, 26), (129, 27), (129, 28), (129, 29), (129, 30)]) 7 (by decide) (by decide +kernel) (by decide +kernel) cls_10 fi_10_7 (Or.inr ⟨rfl, rfl, rfl⟩) (fun _ => ⟨rfl, rfl⟩) (ps_obj (by decide +kernel)) gw_1033 dX11_init_39 rfl ?_
  refine r_aload_n (n := 43) 0 dX11_init_42 rfl rfl ?_
  refine r_iconst (n := 44) (v := 4) dX11_init_43 (by decide) rfl ?_
  refine p_newarr (n := 46) (m := 133) (L' := [(134, 0), (134, 1), (134, 2), (134, 3), (131, 0), (131, 1), (131, 2), (131, 3), (131, 4), (131, 5), (129, 8), (129, 9), (129, 12), (129, 13), (129, 14), (129, 18), (129, 19), (129, 20), (129, 21), (129, 23), (129, 24), (129, 25), (129, 26), (129, 27), (129, 28), (129, 29), (129, 30)]) (t := 11) (i0 := 0) (fty := .int) (z := 4) (Z := 4) (mc := 16) (ms := 3530) (by decide +kernel) (by decide +kernel) rfl (by decide) (fun _ => rfl) rfl na_int gw_105 (by decide) dX11_init_44 rfl ?_
  show ORuns g (d + 1) 16 3530 iX11_init 46 [(0, .ref (og_b g + 129))] [.ref (og_b g + 134), .ref (og_b g + 129)] (PS 134 [(134, 0), (134, 1), (134, 2), (134, 3), (131, 0), (131, 1), (131, 2), (131, 3), (131, 4), (131, 5), (129, 8), (129, 9), (129, 12), (129, 13), (129, 14), (129, 18), (129, 19), (129, 20), (129, 21), (129, 23), (129, 24), (129, 25), (129, 26), (129, 27), (129, 28), (129, 29), (129, 30)]) _
  refine p_putR (n := 49) (v := 134) (m := 134) (a := 129) (L' := [(134, 0), (134, 1), (134, 2), (134, 3), (131, 0), (131, 1), (131, 2), (131, 3), (131, 4), (131, 5), (129, 9), (129, 12), (129, 13), (129, 14), (129, 18), (129, 19), (129, 20), (129, 21), (129, 23), (129, 24), (129, 25), (129, 26), (129, 27), (129, 28), (129, 29), (129, 30)]) 8 (by decide) (by decide +kernel) (by decide +kernel) cls_10 fi_10_8 (Or.inr ⟨rfl, rfl, rfl⟩) (fun _ => ⟨rfl, rfl⟩) (ps_obj (by decide +kernel)) gw_1034 dX11_init_46 rfl ?_
  refine r_aload_n (n := 50) 0 dX11_init_49 rfl rfl ?_
  refine r_sipush (n := 53) (v := 240) dX11_init_50 (by decide) rfl ?_
  refine p_newarr (n := 55) (m := 134) (L' := [(134, 0), (134, 1), (134, 2), (134, 3), (131, 0), (131, 1), (131, 2), (131, 3), (131, 4), (131, 5), (129, 9), (129, 12), (129, 13), (129, 14), (129, 18), (129, 19), (129, 20), (129, 21), (129, 23), (129, 24), (129, 25), (129, 26), (129, 27), (129, 28), (129, 29), (129, 30)]) (t := 12) (i0 := 1) (fty := .byte) (z := 240) (Z := 240) (mc := 15) (ms := 3290) (by decide +kernel) (by decide +kernel) rfl (by decide) (fun _ => rfl) rfl na_byte gw_121 (by decide) dX11_init_53 rfl ?_
  show ORuns g (d + 1) 15 3290 iX11_init 55 [(0, .ref (og_b g + 129))] [.ref (og_b g + 135), .ref (og_b g + 129)] (PS 135 [(134, 0), (134, 1), (134, 2), (134, 3), (131, 0), (131, 1), (131, 2), (131, 3), (131, 4), (131, 5), (129, 9), (129, 12), (129, 13), (129, 14), (129, 18), (129, 19), (129, 20), (129, 21), (129, 23), (129, 24), (129, 25), (129, 26), (129, 27), (129, 28), (129, 29), (129, 30)]) _
  refine p_putR (n := 58) (v := 135) (m := 135) (a := 129) (L' := [(134, 0), (134, 1), (134, 2), (134, 3), (131, 0), (131, 1), (131, 2), (131, 3), (131, 4), (131, 5), (129, 12), (129, 13), (129, 14), (129, 18), (129, 19), (129, 20), (129, 21), (129, 23), (129, 24), (129, 25), (129, 26), (129, 27), (129, 28), (129, 29), (129, 30)]) 9 (by decide) (by decide +kernel) (by decide +kernel) cls_10 fi_10_9 (Or.inr ⟨rfl, rfl, rfl⟩) (fun _ => ⟨rfl, rfl⟩) (ps_obj (by decide +kernel)) gw_1035 dX11_init_55 rfl ?_
  refine r_aload_n (n := 59) 0 dX11_init_58 rfl rfl ?_
  refine r_bipush (n := 61) (v := 6) dX11_init_59 (by decide) rfl ?_
  refine p_newarr (n := 63) (m := 135) (L' := [(134, 0), (134, 1), (134, 2), (134, 3), (131, 0), (131, 1), (131, 2), (131, 3), (131, 4), (131, 5), (129, 12), (129, 13), (129, 14), (129, 18), (129, 19), (129, 20), (129, 21), (129, 23), (129, 24), (129, 25), (129, 26), (129, 27), (129, 28), (129, 29), (129, 30)]) (t := 11) (i0 := 0) (fty := .int) (z := 6) (Z := 6) (mc := 14) (ms := 3284) (by decide +kernel) (by decide +kernel) rfl (by decide) (fun _ => rfl) rfl na_int gw_105 (by decide) dX11_init_61 rfl ?_
  show ORuns g (d + 1) 14 3284 iX11_init 63 [(0, .ref (og_b g + 129))] [.ref (og_b g + 136), .ref (og_b g + 129)] (PS 136 [(134, 0), (134, 1), (134, 2), (134, 3), (131, 0), (131, 1), (131, 2), (131, 3), (131, 4), (131, 5), (129, 12), (129, 13), (129, 14), (129, 18), (129, 19), (129, 20), (129, 21), (129, 23), (129, 24), (129, 25), (129, 26), (129, 27), (129, 28), (129, 29), (129, 30)]) _
  refine p_putR (n := 66) (v := 136) (m := 136) (a := 129) (L' := [(134, 0), (134, 1), (134, 2), (134, 3), (131, 0), (131, 1), (131, 2), (131, 3), (131, 4), (131, 5), (129, 13), (129, 14), (129, 18), (129, 19), (129, 20), (129, 21), (129, 23), (129, 24), (129, 25), (129, 26), (129, 27), (129, 28), (129, 29), (129, 30)]) 12 (by decide) (by decide +kernel) (by decide +kernel) cls_10 fi_10_12 (Or.inr ⟨rfl, rfl, rfl⟩) (fun _ => ⟨rfl, rfl⟩) (ps_obj (by decide +kernel)) gw_1038 dX11_init_63 rfl ?_
  refine r_aload_n (n := 67) 0 dX11_init_66 rfl rfl ?_
  refine r_iconst (n := 68) (v := 5) dX11_init_67 (by decide) rfl ?_
  refine p_newarr (n := 70) (m := 136) (L' := [(134, 0), (134, 1), (134, 2), (134, 3), (131, 0), (131, 1), (131, 2), (131, 3), (131, 4), (131, 5), (129, 13), (129, 14), (129, 18), (129, 19), (129, 20), (129, 21), (129, 23), (129, 24), (129, 25), (129, 26), (129, 27), (129, 28), (129, 29), (129, 30)]) (t := 11) (i0 := 0) (fty := .int) (z := 5) (Z := 5) (mc := 13) (ms := 3279) (by decide +kernel) (by decide +kernel) rfl (by decide) (fun _ => rfl) rfl na_int gw_105 (by decide) dX11_init_68 rfl ?_
  show ORuns g (d + 1) 13 3279 iX11_init 70 [(0, .ref (og_b g + 129))] [.ref (og_b g + 137), .ref (og_b g + 129)] (PS 137 [(134, 0), (134, 1), (134, 2), (134, 3), (131, 0), (131, 1), (131, 2), (131, 3), (131, 4), (131, 5), (129, 13), (129, 14), (129, 18), (129, 19), (129, 20), (129, 21), (129, 23), (129, 24), (129, 25), (129, 26), (129, 27), (129, 28), (129, 29), (129, 30)]) _
  refine p_putR (n := 73) (v := 137) (m := 137) (a := 129) (L' := [(134, 0), (134, 1), (134, 2), (134, 3), (131, 0), (131, 1), (131, 2), (131, 3), (131, 4), (131, 5), (129, 14), (129, 18), (129, 19), (129, 20), (129, 21), (129, 23), (129, 24), (129, 25), (129, 26), (129, 27), (129, 28), (129, 29), (129, 30)]) 13 (by decide) (by decide +kernel) (by decide +kernel) cls_10 fi_10_13 (Or.inr ⟨rfl, rfl, rfl⟩) (fun _ => ⟨rfl, rfl⟩) (ps_obj (by decide +kernel)) gw_1039 dX11_init_70 rfl ?_
  refine r_aload_n (n := 74) 0 dX11_init_73 rfl rfl ?_
  refine r_iconst (n := 75) (v := 5) dX11_init_74 (by decide) rfl ?_
  refine p_newarr (n := 77) (m := 137) (L' := [(134, 0), (134, 1), (134, 2), (134, 3), (131, 0), (131, 1), (131, 2), (131, 3), (131, 4), (131, 5), (129, 14), (129, 18), (129, 19), (129, 20), (129, 21), (129, 23), (129, 24), (129, 25), (129, 26), (129, 27), (129, 28), (129, 29), (129, 30)]) (t := 11) (i0 := 0) (fty := .int) (z := 5) (Z := 5) (mc := 12) (ms := 3274) (by decide +kernel) (by decide +kernel) rfl (by decide) (fun _ => rfl) rfl na_int gw_105 (by decide) dX11_init_75 rfl ?_
  show ORuns g (d + 1) 12 3274 iX11_init 77 [(0, .ref (og_b g + 129))] [.ref (og_b g + 138), .ref (og_b g + 129)] (PS 138 [(134, 0), (134, 1), (134, 2), (134, 3), (131, 0), (131, 1), (131, 2), (131, 3), (131, 4), (131, 5), (129, 14), (129, 18), (129, 19), (129, 20), (129, 21), (129, 23), (129, 24), (129, 25), (129, 26), (129, 27), (129, 28), (129, 29), (129, 30)]) _
  refine p_putR (n := 80) (v := 138) (m := 138) (a := 129) (L' := [(134, 0), (134, 1), (134, 2), (134, 3), (131, 0), (131, 1), (131, 2), (131, 3), (131, 4), (131, 5), (129, 18), (129, 19), (129, 20), (129, 21), (129, 23), (129, 24), (129, 25), (129, 26), (129, 27), (129, 28), (129, 29), (129, 30)]) 14 (by decide) (by decide +kernel) (by decide +kernel) cls_10 fi_10_14 (Or.inr ⟨rfl, rfl, rfl⟩) (fun _ => ⟨rfl, rfl⟩) (ps_obj (by decide +kernel)) gw_1040 dX11_init_77 rfl ?_
  refine r_aload_n (n := 81) 0 dX11_init_80 rfl rfl ?_
  refine r_bipush (n := 83) (v := 6) dX11_init_81 (by decide) rfl ?_
  refine p_newarr (n := 85) (m := 138) (L' := [(134, 0), (134, 1), (134, 2), (134, 3), (131, 0), (131, 1), (131, 2), (131, 3), (131, 4), (131, 5), (129, 18), (129, 19), (129, 20), (129, 21), (129, 23), (129, 24), (129, 25), (129, 26), (129, 27), (129, 28), (129, 29), (129, 30)]) (t := 11) (i0 := 0) (fty := .int) (z := 6) (Z := 6) (mc := 11) (ms := 3268) (by decide +kernel) (by decide +kernel) rfl (by decide) (fun _ => rfl) rfl na_int gw_105 (by decide) dX11_init_83 rfl ?_
  show ORuns g (d + 1) 11 3268 iX11_init 85 [(0, .ref (og_b g + 129))] [.ref (og_b g + 139), .ref (og_b g + 129)] (PS 139 [(134, 0), (134, 1), (134, 2), (134, 3), (131, 0), (131, 1), (131, 2), (131, 3), (131, 4), (131, 5), (129, 18), (129, 19), (129, 20), (129, 21), (129, 23), (129, 24), (129, 25), (129, 26), (129, 27), (129, 28), (129, 29), (129, 30)]) _
  refine p_putR (n := 88) (v := 139) (m := 139) (a := 129) (L' := [(134, 0), (134, 1), (134, 2), (134, 3), (131, 0), (131, 1), (131, 2), (131, 3), (131, 4), (131, 5), (129, 19), (129, 20), (129, 21), (129, 23), (129, 24), (129, 25), (129, 26), (129, 27), (129, 28), (129, 29), (129, 30)]) 18 (by decide) (by decide +kernel) (by decide +kernel) cls_10 fi_10_18 (Or.inr ⟨rfl, rfl, rfl⟩) (fun _ => ⟨rfl, rfl⟩) (ps_obj (by decide +kernel)) gw_1044 dX11_init_85 rfl ?_
  refine r_aload_n (n := 89) 0 dX11_init_88 rfl rfl ?_
  refine r_bipush (n := 91) (v := 20) dX11_init_89 (by decide) rfl ?_
  refine p_newarr (n := 93) (m := 139) (L' := [(134, 0), (134, 1), (134, 2), (134, 3), (131, 0), (131, 1), (131, 2), (131, 3), (131, 4), (131, 5), (129, 19), (129, 20), (129, 21), (129, 23), (129, 24), (129, 25), (129, 26), (129, 27), (129, 28), (129, 29), (129, 30)]) (t := 11) (i0 := 0) (fty := .int) (z := 20) (Z := 20) (mc := 10) (ms := 3248) (by decide +kernel) (by decide +kernel) rfl (by decide) (fun _ => rfl) rfl na_int gw_105 (by decide) dX11_init_91 rfl ?_
  show ORuns g (d + 1) 10 3248 iX11_init 93 [(0, .ref (og_b g + 129))] [.ref (og_b g + 140), .ref (og_b g + 129)] (PS 140 [(134, 0), (134, 1), (134, 2), (134, 3), (131, 0), (131, 1), (131, 2), (131, 3), (131, 4), (131, 5), (129, 19), (129, 20), (129, 21), (129, 23), (129, 24), (129, 25), (129, 26), (129, 27), (129, 28), (129, 29), (129, 30)]) _
  refine p_putR (n := 96) (v := 140) (m := 140) (a := 129) (L' := [(134, 0), (134, 1), (134, 2), (134, 3), (131, 0), (131, 1), (131, 2), (131, 3), (131, 4), (131, 5), (129, 20), (129, 21), (129, 23), (129, 24), (129, 25), (129, 26), (129, 27), (129, 28), (129, 29), (129, 30)]) 19 (by decide) (by decide +kernel) (by decide +kernel) cls_10 fi_10_19 (Or.inr ⟨rfl, rfl, rfl⟩) (fun _ => ⟨rfl, rfl⟩) (ps_obj (by decide +kernel)) gw_1045 dX11_init_93 rfl ?_
  refine r_aload_n (n := 97) 0 dX11_init_96 rfl rfl ?_
  refine r_bipush (n := 99) (v := 18) dX11_init_97 (by decide) rfl ?_
  refine p_newarr (n := 101) (m := 140) (L' := [(134, 0), (134, 1), (134, 2), (134, 3), (131, 0), (131, 1), (131, 2), (131, 3), (131, 4), (131, 5), (129, 20), (129, 21), (129, 23), (129, 24), (129, 25), (129, 26), (129, 27), (129, 28), (129, 29), (129, 30)]) (t := 11) (i0 := 0) (fty := .int) (z := 18) (Z := 18) (mc := 9) (ms := 3230) (by decide +kernel) (by decide +kernel) rfl (by decide) (fun _ => rfl) rfl na_int gw_105 (by decide) dX11_init_99 rfl ?_
  show ORuns g (d + 1) 9 3230 iX11_init 101 [(0, .ref (og_b g + 129))] [.ref (og_b g + 141), .ref (og_b g + 129)] (PS 141 [(134, 0), (134, 1), (134, 2), (134, 3), (131, 0), (131, 1), (131, 2), (131, 3), (131, 4), (131, 5), (129, 20), (129, 21), (129, 23), (129, 24), (129, 25), (129, 26), (129, 27), (129, 28), (129, 29), (129, 30)]) _
  refine p_putR (n := 104) (v := 141) (m := 141) (a := 129) (L' := [(134, 0), (134, 1), (134, 2), (134, 3), (131, 0), (131, 1), (131, 2), (131, 3), (131, 4), (131, 5), (129, 21), (129, 23), (129, 24), (129, 25), (129, 26), (129, 27), (129, 28), (129, 29), (129, 30)]) 20 (by decide) (by decide +kernel) (by decide +kernel) cls_10 fi_10_20 (Or.inr ⟨rfl, rfl, rfl⟩) (fun _ => ⟨rfl, rfl⟩) (ps_obj (by decide +kernel)) gw_1046 dX11_init_101 rfl ?_
  refine r_aload_n (n := 105) 0 dX11_init_104 rfl rfl ?_
  refine r_sipush (n := 108) (v := 216) dX11_init_105 (by decide) rfl ?_
  refine p_newarr (n := 110) (m := 141) (L' := [(134, 0), (134, 1), (134, 2), (134, 3), (131, 0), (131, 1), (131, 2), (131, 3), (131, 4), (131, 5), (129, 21), (129, 23), (129, 24), (129, 25), (129, 26), (129, 27), (129, 28), (129, 29), (129, 30)]) (t := 11) (i0 := 0) (fty := .int) (z := 216) (Z := 216) (mc := 8) (ms := 3014) (by decide +kernel) (by decide +kernel) rfl (by decide) (fun _ => rfl) rfl na_int gw_105 (by decide) dX11_init_108 rfl ?_
  show ORuns g (d + 1) 8 3014 iX11_init 110 [(0, .ref (og_b g + 129))] [.ref (og_b g + 142), .ref (og_b g + 129)] (PS 142 [(134, 0), (134, 1), (134, 2), (134, 3), (131, 0), (131, 1), (131, 2), (131, 3), (131, 4), (131, 5), (129, 21), (129, 23), (129, 24), (129, 25), (129, 26), (129, 27), (129, 28), (129, 29), (129, 30)]) _
  refine p_putR (n := 113) (v := 142) (m := 142) (a := 129) (L' := [(134, 0), (134, 1), (134, 2), (134, 3), (131, 0), (131, 1), (131, 2), (131, 3), (131, 4), (131, 5), (129, 23), (129, 24), (129, 25), (129, 26), (129, 27), (129, 28), (129, 29), (129, 30)]) 21 (by decide) (by decide +kernel) (by decide +kernel) cls_10 fi_10_21 (Or.inr ⟨rfl, rfl, rfl⟩) (fun _ => ⟨rfl, rfl⟩) (ps_obj (by decide +kernel)) gw_1047 dX11_init_110 rfl ?_
  refine r_aload_n (n := 114) 0 dX11_init_113 rfl rfl ?_
  refine r_sipush (n := 117) (v := 720) dX11_init_114 (by decide) rfl ?_
  refine p_newarr (n := 119) (m := 142) (L' := [(134, 0), (134, 1), (134, 2), (134, 3), (131, 0), (131, 1), (131, 2), (131, 3), (131, 4), (131, 5), (129, 23), (129, 24), (129, 25), (129, 26), (129, 27), (129, 28), (129, 29), (129, 30)]) (t := 11) (i0 := 0) (fty := .int) (z := 720) (Z := 720) (mc := 7) (ms := 2294) (by decide +kernel) (by decide +kernel) rfl (by decide) (fun _ => rfl) rfl na_int gw_105 (by decide) dX11_init_117 rfl ?_
  show ORuns g (d + 1) 7 2294 iX11_init 119 [(0, .ref (og_b g + 129))] [.ref (og_b g + 143), .ref (og_b g + 129)] (PS 143 [(134, 0), (134, 1), (134, 2), (134, 3), (131, 0), (131, 1), (131, 2), (131, 3), (131, 4), (131, 5), (129, 23), (129, 24), (129, 25), (129, 26), (129, 27), (129, 28), (129, 29), (129, 30)]) _
  refine p_putR (n := 122) (v := 143) (m := 143) (a := 129) (L' := [(134, 0), (134, 1), (134, 2), (134, 3), (131, 0), (131, 1), (131, 2), (131, 3), (131, 4), (131, 5), (129, 24), (129, 25), (129, 26), (129, 27), (129, 28), (129, 29), (129, 30)]) 23 (by decide) (by decide +kernel) (by decide +kernel) cls_10 fi_10_23 (Or.inr ⟨rfl, rfl, rfl⟩) (fun _ => ⟨rfl, rfl⟩) (ps_obj (by decide +kernel)) gw_1049 dX11_init_119 rfl ?_
  refine r_aload_n (n := 123) 0 dX11_init_122 rfl rfl ?_
  refine r_iconst (n := 124) (v := 3) dX11_init_123 (by decide) rfl ?_
  refine p_newarr (n := 126) (m := 143) (L' := [(134, 0), (134, 1), (134, 2), (134, 3), (131, 0), (131, 1), (131, 2), (131, 3), (131, 4), (131, 5), (129, 24), (129, 25), (129, 26), (129, 27), (129, 28), (129, 29), (129, 30)]) (t := 13) (i0 := 2) (fty := .boolean) (z := 3) (Z := 3) (mc := 6) (ms := 2291) (by decide +kernel) (by decide +kernel) rfl (by decide) (fun _ => rfl) rfl na_boolean gw_1141 (by decide) dX11_init_124 rfl ?_
  show ORuns g (d + 1) 6 2291 iX11_init 126 [(0, .ref (og_b g + 129))] [.ref (og_b g + 144), .ref (og_b g + 129)] (PS 144 [(134, 0), (134, 1), (134, 2), (134, 3), (131, 0), (131, 1), (131, 2), (131, 3), (131, 4), (131, 5), (129, 24), (129, 25), (129, 26), (129, 27), (129, 28), (129, 29), (129, 30)]) _
  refine p_putR (n := 129) (v := 144) (m := 144) (a := 129) (L' := [(134, 0), (134, 1), (134, 2), (134, 3), (131, 0), (131, 1), (131, 2), (131, 3), (131, 4), (131, 5), (129, 25), (129, 26), (129, 27), (129, 28), (129, 29), (129, 30)]) 24 (by decide) (by decide +kernel) (by decide +kernel) cls_10 fi_10_24 (Or.inr ⟨rfl, rfl, rfl⟩) (fun _ => ⟨rfl, rfl⟩) (ps_obj (by decide +kernel)) gw_1050 dX11_init_126 rfl ?_
  refine r_aload_n (n := 130) 0 dX11_init_129 rfl rfl ?_
  refine r_iconst (n := 131) (v := 3) dX11_init_130 (by decide) rfl ?_
  refine p_newarr (n := 133) (m := 144) (L' := [(134, 0), (134, 1), (134, 2), (134, 3), (131, 0), (131, 1), (131, 2), (131, 3), (131, 4), (131, 5), (129, 25), (129, 26), (129, 27), (129, 28), (129, 29), (129, 30)]) (t := 11) (i0 := 0) (fty := .int) (z := 3) (Z := 3) (mc := 5) (ms := 2288) (by decide +kernel) (by decide +kernel) rfl (by decide) (fun _ => rfl) rfl na_int gw_105 (by decide) dX11_init_131 rfl ?_
  show ORuns g (d + 1) 5 2288 iX11_init 133 [(0, .ref (og_b g + 129))] [.ref (og_b g + 145), .ref (og_b g + 129)] (PS 145 [(134, 0), (134, 1), (134, 2), (134, 3), (131, 0), (131, 1), (131, 2), (131, 3), (131, 4), (131, 5), (129, 25), (129, 26), (129, 27), (129, 28), (129, 29), (129, 30)]) _
  refine p_putR (n := 136) (v := 145) (m := 145) (a := 129) (L' := [(134, 0), (134, 1), (134, 2), (134, 3), (131, 0), (131, 1), (131, 2), (131, 3), (131, 4), (131, 5), (129, 26), (129, 27), (129, 28), (129, 29), (129, 30)]) 25 (by decide) (by decide +kernel) (by decide +kernel) cls_10 fi_10_25 (Or.inr ⟨rfl, rfl, rfl⟩) (fun _ => ⟨rfl, rfl⟩) (ps_obj (by decide +kernel)) gw_1051 dX11_init_133 rfl ?_
  refine r_aload_n (n := 137) 0 dX11_init_136 rfl rfl ?_
  refine r_bipush (n := 139) (v := 54) dX11_init_137 (by decide) rfl ?_
  refine p_newarr (n := 141) (m := 145) (L' := [(134, 0), (134, 1), (134, 2), (134, 3), (131, 0), (131, 1), (131, 2), (131, 3), (131, 4), (131, 5), (129, 26), (129, 27), (129, 28), (129, 29), (129, 30)]) (t := 11) (i0 := 0) (fty := .int) (z := 54) (Z := 54) (mc := 4) (ms := 2234) (by decide +kernel) (by decide +kernel) rfl (by decide) (fun _ => rfl) rfl na_int gw_105 (by decide) dX11_init_139 rfl ?_
  show ORuns g (d + 1) 4 2234 iX11_init 141 [(0, .ref (og_b g + 129))] [.ref (og_b g + 146), .ref (og_b g + 129)] (PS 146 [(134, 0), (134, 1), (134, 2), (134, 3), (131, 0), (131, 1), (131, 2), (131, 3), (131, 4), (131, 5), (129, 26), (129, 27), (129, 28), (129, 29), (129, 30)]) _
  refine p_putR (n := 144) (v := 146) (m := 146) (a := 129) (L' := [(134, 0), (134, 1), (134, 2), (134, 3), (131, 0), (131, 1), (131, 2), (131, 3), (131, 4), (131, 5), (129, 27), (129, 28), (129, 29), (129, 30)]) 26 (by decide) (by decide +kernel) (by decide +kernel) cls_10 fi_10_26 (Or.inr ⟨rfl, rfl, rfl⟩) (fun _ => ⟨rfl, rfl⟩) (ps_obj (by decide +kernel)) gw_1052 dX11_init_141 rfl ?_
  refine r_aload_n (n := 145) 0 dX11_init_144 rfl rfl ?_
  refine r_bipush (n := 147) (v := 54) dX11_init_145 (by decide) rfl ?_
  refine p_newarr (n := 149) (m := 146) (L' := [(134, 0), (134, 1), (134, 2), (134, 3), (131, 0), (131, 1), (131, 2), (131, 3), (131, 4), (131, 5), (129, 27), (129, 28), (129, 29), (129, 30)]) (t := 11) (i0 := 0) (fty := .int) (z := 54) (Z := 54) (mc := 3) (ms := 2180) (by decide +kernel) (by decide +kernel) rfl (by decide) (fun _ => rfl) rfl na_int gw_105 (by decide) dX11_init_147 rfl ?_
  show ORuns g (d + 1) 3 2180 iX11_init 149 [(0, .ref (og_b g + 129))] [.ref (og_b g + 147), .ref (og_b g + 129)] (PS 147 [(134, 0), (134, 1), (134, 2), (134, 3), (131, 0), (131, 1), (131, 2), (131, 3), (131, 4), (131, 5), (129, 27), (129, 28), (129, 29), (129, 30)]) _
  refine p_putR (n := 152) (v := 147) (m := 147) (a := 129) (L' := [(134, 0), (134, 1), (134, 2), (134, 3), (131, 0), (131, 1), (131, 2), (131, 3), (131, 4), (131, 5), (129, 28), (129, 29), (129, 30)]) 27 (by decide) (by decide +kernel) (by decide +kernel) cls_10 fi_10_27 (Or.inr ⟨rfl, rfl, rfl⟩) (fun _ => ⟨rfl, rfl⟩) (ps_obj (by decide +kernel)) gw_1053 dX11_init_149 rfl ?_
  refine r_aload_n (n := 153) 0 dX11_init_152 rfl rfl ?_
  refine r_sipush (n := 156) (v := 2160) dX11_init_153 (by decide) rfl ?_
  refine p_newarr (n := 158) (m := 147) (L' := [(134, 0), (134, 1), (134, 2), (134, 3), (131, 0), (131, 1), (131, 2), (131, 3), (131, 4), (131, 5), (129, 28), (129, 29), (129, 30)]) (t := 11) (i0 := 0) (fty := .int) (z := 2160) (Z := 2160) (mc := 2) (ms := 20) (by decide +kernel) (by decide +kernel) rfl (by decide) (fun _ => rfl) rfl na_int gw_105 (by decide) dX11_init_156 rfl ?_
  show ORuns g (d + 1) 2 20 iX11_init 158 [(0, .ref (og_b g + 129))] [.ref (og_b g + 148), .ref (og_b g + 129)] (PS 148 [(134, 0), (134, 1), (134, 2), (134, 3), (131, 0), (131, 1), (131, 2), (131, 3), (131, 4), (131, 5), (129, 28), (129, 29), (129, 30)]) _
  refine p_putR (n := 161) (v := 148) (m := 148) (a := 129) (L' := [(134, 0), (134, 1), (134, 2), (134, 3), (131, 0), (131, 1), (131, 2), (131, 3), (131, 4), (131, 5), (129, 29), (129, 30)]) 28 (by decide) (by decide +kernel) (by decide +kernel) cls_10 fi_10_28 (Or.inr ⟨rfl, rfl, rfl⟩) (fun _ => ⟨rfl, rfl⟩) (ps_obj (by decide +kernel)) gw_1054 dX11_init_158 rfl ?_
  refine r_aload_n (n := 162) 0 dX11_init_161 rfl rfl ?_
  refine r_bipush (n := 164) (v := 10) dX11_init_162 (by decide) rfl ?_
  refine p_newarr (n := 166) (m := 148) (L' := [(134, 0), (134, 1), (134, 2), (134, 3), (131, 0), (131, 1), (131, 2), (131, 3), (131, 4), (131, 5), (129, 29), (129, 30)]) (t := 11) (i0 := 0) (fty := .int) (z := 10) (Z := 10) (mc := 1) (ms := 10) (by decide +kernel) (by decide +kernel) rfl (by decide) (fun _ => rfl) rfl na_int gw_105 (by decide) dX11_init_164 rfl ?_
  show ORuns g (d + 1) 1 10 iX11_init 166 [(0, .ref (og_b g + 129))] [.ref (og_b g + 149), .ref (og_b g + 129)] (PS 149 [(134, 0), (134, 1), (134, 2), (134, 3), (131, 0), (131, 1), (131, 2), (131, 3), (131, 4), (131, 5), (129, 29), (129, 30)]) _
  refine p_putR (n := 169) (v := 149) (m := 149) (a := 129) (L' := [(134, 0), (134, 1), (134, 2), (134, 3), (131, 0), (131, 1), (131, 2), (131, 3), (131, 4), (131, 5), (129, 30)]) 29 (by decide) (by decide +kernel) (by decide +kernel) cls_10 fi_10_29 (Or.inr ⟨rfl, rfl, rfl⟩) (fun _ => ⟨rfl, rfl⟩) (ps_obj (by decide +kernel)) gw_1055 dX11_init_166 rfl ?_
  refine r_aload_n (n := 170) 0 dX11_init_169 rfl rfl ?_
  refine r_bipush (n := 172) (v := 10) dX11_init_170 (by decide) rfl ?_
  refine p_newarr (n := 174) (m := 149) (L' := [(134, 0), (134, 1), (134, 2), (134, 3), (131, 0), (131, 1), (131, 2), (131, 3), (131, 4), (131, 5), (129, 30)]) (t := 11) (i0 := 0) (fty := .int) (z := 10) (Z := 10) (mc := 0) (ms := 0) (by decide +kernel) (by decide +kernel) rfl (by decide) (fun _ => rfl) rfl na_int gw_105 (by decide) dX11_init_172 rfl ?_
  show ORuns g (d + 1) 0 0 iX11_init 174 [(0, .ref (og_b g + 129))] [.ref (og_b g + 150), .ref (og_b g + 129)] (PS 150 [(134, 0), (134, 1), (134, 2), (134, 3), (131, 0), (131, 1), (131, 2), (131, 3), (131, 4), (131, 5), (129, 30)]) _
  refine p_putR (n := 177) (v := 150) (m := 150) (a := 129) (L' := [(134, 0), (134, 1), (134, 2), (134, 3), (131, 0), (131, 1), (131, 2), (131, 3), (131, 4), (131, 5)]) 30 (by decide) (by decide +kernel) (by decide +kernel) cls_10 fi_10_30 (Or.inr ⟨rfl, rfl, rfl⟩) (fun _ => ⟨rfl, rfl⟩) (ps_obj (by decide +kernel)) gw_1056 dX11_init_174 rfl ?_
  refine r_iconst (n := 178) (v := 0) dX11_init_177 (by decide) rfl ?_
  refine r_istore_n (n := 179) (lv' := [(1, .int 0), (0, .ref (og_b g + 129))]) dX11_init_178 rfl (by decide) rfl rfl ?_
  refine r_iload_n (n := 180) 0 dX11_init_179 rfl rfl ?_
  refine r_bipush (n := 182) (v := 6) dX11_init_180 (by decide) rfl ?_
  refine r_icmp_ge (n := 185) (tgt := 198) dX11_init_182 (by decide) rfl (fun q => absurd q (by decide)) (fun _ => ?_)
  refine r_aload_n (n := 186) 1 dX11_init_185 rfl rfl ?_
  refine p_getR (n := 189) (x := 131) (m := 150) (a := 129) 5 (by decide +kernel) (by decide) cls_10 fi_10_5 (ps_obj (by decide +kernel)) gw_1031 dX11_init_186 rfl ?_
  refine r_iload_n (n := 190) 0 dX11_init_189 rfl rfl ?_
  refine r_iconst (n := 191) (v := (-1)) dX11_init_190 (by decide) rfl ?_
  refine p_iast (n := 192) (m := 150) (a := 131) (j := 0) (L' := [(134, 0), (134, 1), (134, 2), (134, 3), (131, 1), (131, 2), (131, 3), (131, 4), (131, 5)]) (z := 6) (by decide +kernel) (by decide +kernel) (by decide) (ps_arr (by decide +kernel)) (vp_in_nI (n := 0) (N := 6) (by decide) (by decide)) dX11_init_191 rfl ?_
  refine r_iinc (n := 195) (v := 1) (lv' := [(1, .int 1), (0, .ref (og_b g + 129))]) 0 dX11_init_192 rfl (by decide) (by decide) rfl rfl ?_
  refine r_goto (n := 179) dX11_init_195 (by decide) ?_
  refine r_iload_n (n := 180) 0 dX11_init_179 rfl rfl ?_
  refine r_bipush (n := 182) (v := 6) dX11_init_180 (by decide) rfl ?_
  refine r_icmp_ge (n := 185) (tgt := 198) dX11_init_182 (by decide) rfl (fun q => absurd q (by decide)) (fun _ => ?_)
  refine r_aload_n (n := 186) 1 dX11_init_185 rfl rfl ?_
  refine p_getR (n := 189) (x := 131) (m := 150) (a := 129) 5 (by decide +kernel) (by decide) cls_10 fi_10_5 (ps_obj (by decide +kernel)) gw_1031 dX11_init_186 rfl ?_
  refine r_iload_n (n := 190) 0 dX11_init_189 rfl rfl ?_
  refine r_iconst (n := 191) (v := (-1)) dX11_init_190 (by decide) rfl ?_
  refine p_iast (n := 192) (m := 150) (a := 131) (j := 1) (L' := [(134, 0), (134, 1), (134, 2), (134, 3), (131, 2), (131, 3), (131, 4), (131, 5)]) (z := 6) (by decide +kernel) (by decide +kernel) (by decide) (ps_arr (by decide +kernel)) (vp_in_nI (n := 1) (N := 6) (by decide) (by decide)) dX11_init_191 rfl ?_
  refine r_iinc (n := 195) (v := 2) (lv' := [(1, .int 2), (0, .ref (og_b g + 129))]) 0 dX11_init_192 rfl (by decide) (by decide) rfl rfl ?_
  refine r_goto (n := 179) dX11_init_195 (by decide) ?_
  refine r_iload_n (n := 180) 0 dX11_init_179 rfl rfl ?_
  refine r_bipush (n := 182) (v := 6) dX11_init_180 (by decide) rfl ?_
  refine r_icmp_ge (n := 185) (tgt := 198) dX11_init_182 (by decide) rfl (fun q => absurd q (by decide)) (fun _ => ?_)
  refine r_aload_n (n := 186) 1 dX11_init_185 rfl rfl ?_
  refine p_getR (n := 189) (x := 131) (m := 150) (a := 129) 5 (by decide +kernel) (by decide) cls_10 fi_10_5 (ps_obj (by decide +kernel)) gw_1031 dX11_init_186 rfl ?_
  refine r_iload_n (n := 190) 0 dX11_init_189 rfl rfl ?_
  refine r_iconst (n := 191) (v := (-1)) dX11_init_190 (by decide) rfl ?_
  refine p_iast (n := 192) (m := 150) (a := 131) (j := 2) (L' := [(134, 0), (134, 1), (134, 2), (134, 3), (131, 3), (131, 4), (131, 5)]) (z := 6) (by decide +kernel) (by decide +kernel) (by decide) (ps_arr (by decide +kernel)) (vp_in_nI (n := 2) (N := 6) (by decide) (by decide)) dX11_init_191 rfl ?_
  refine r_iinc (n := 195) (v := 3) (lv' := [(1, .int 3), (0, .ref (og_b g + 129))]) 0 dX11_init_192 rfl (by decide) (by decide) rfl rfl ?_
  refine r_goto (n := 179) dX11_init_195 (by decide) ?_
  refine r_iload_n (n := 180) 0 dX11_init_179 rfl rfl ?_
  refine r_bipush (n := 182) (v := 6) dX11_init_180 (by decide) rfl ?_
  refine r_icmp_ge (n := 185) (tgt := 198) dX11_init_182 (by decide) rfl (fun q => absurd q (by decide)) (fun _ => ?_)
  refine r_aload_n (n := 186) 1 dX11_init_185 rfl rfl ?_
  refine p_getR (n := 189) (x := 131) (m := 150) (a := 129) 5 (by decide +kernel) (by decide) cls_10 fi_10_5 (ps_obj (by decide +kernel)) gw_1031 dX11_init_186 rfl ?_
  refine r_iload_n (n := 190) 0 dX11_init_189 rfl rfl ?_
  refine r_iconst (n := 191) (v := (-1)) dX11_init_190 (by decide) rfl ?_
  refine p_iast (n := 192) (m := 150) (a := 131) (j := 3) (L' := [(134, 0), (134, 1), (134, 2), (134, 3), (131, 4), (131, 5)]) (z := 6) (by decide +kernel) (by decide +kernel) (by decide) (ps_arr (by decide +kernel)) (vp_in_nI (n := 3) (N := 6) (by decide) (by decide)) dX11_init_191 rfl ?_
  refine r_iinc (n := 195) (v := 4) (lv' := [(1, .int 4), (0, .ref (og_b g + 129))]) 0 dX11_init_192 rfl (by decide) (by decide) rfl rfl ?_
  refine r_goto (n := 179) dX11_init_195 (by decide) ?_
  refine r_iload_n (n := 180) 0 dX11_init_179 rfl rfl ?_
  refine r_bipush (n := 182) (v := 6) dX11_init_180 (by decide) rfl ?_
  refine r_icmp_ge (n := 185) (tgt := 198) dX11_init_182 (by decide) rfl (fun q => absurd q (by decide)) (fun _ => ?_)
  refine r_aload_n (n := 186) 1 dX11_init_185 rfl rfl ?_
  refine p_getR (n := 189) (x := 131) (m := 150) (a := 129) 5 (by decide +kernel) (by decide) cls_10 fi_10_5 (ps_obj (by decide +kernel)) gw_1031 dX11_init_186 rfl ?_
  refine r_iload_n (n := 190) 0 dX11_init_189 rfl rfl ?_
  refine r_iconst (n := 191) (v := (-1)) dX11_init_190 (by decide) rfl ?_
  refine p_iast (n := 192) (m := 150) (a := 131) (j := 4) (L' := [(134, 0), (134, 1), (134, 2), (134, 3), (131, 5)]) (z := 6) (by decide +kernel) (by decide +kernel) (by decide) (ps_arr (by decide +kernel)) (vp_in_nI (n := 4) (N := 6) (by decide) (by decide)) dX11_init_191 rfl ?_
  refine r_iinc (n := 195) (v := 5) (lv' := [(1, .int 5), (0, .ref (og_b g + 129))]) 0 dX11_init_192 rfl (by decide) (by decide) rfl rfl ?_
  refine r_goto (n := 179) dX11_init_195 (by decide) ?_
  refine r_iload_n (n := 180) 0 dX11_init_179 rfl rfl ?_
  refine r_bipush (n := 182) (v := 6) dX11_init_180 (by decide) rfl ?_
  refine r_icmp_ge (n := 185) (tgt := 198) dX11_init_182 (by decide) rfl (fun q => absurd q (by decide)) (fun _ => ?_)
  refine r_aload_n (n := 186) 1 dX11_init_185 rfl rfl ?_
  refine p_getR (n := 189) (x := 131) (m := 150) (a := 129) 5 (by decide +kernel) (by decide) cls_10 fi_10_5 (ps_obj (by decide +kernel)) gw_1031 dX11_init_186 rfl ?_
  refine r_iload_n (n := 190) 0 dX11_init_189 rfl rfl ?_
  refine r_iconst (n := 191) (v := (-1)) dX11_init_190 (by decide) rfl ?_
  refine p_iast (n := 192) (m := 150) (a := 131) (j := 5) (L' := [(134, 0), (134, 1), (134, 2), (134, 3)]) (z := 6) (by decide +kernel) (by decide +kernel) (by decide) (ps_arr (by decide +kernel)) (vp_in_nI (n := 5) (N := 6) (by decide) (by decide)) dX11_init_191 rfl ?_
  refine r_iinc (n := 195) (v := 6) (lv' := [(1, .int 6), (0, .ref (og_b g + 129))]) 0 dX11_init_192 rfl (by decide) (by decide) rfl rfl ?_
  refine r_goto (n := 179) dX11_init_195 (by decide) ?_
  refine r_iload_n (n := 180) 0 dX11_init_179 rfl rfl ?_
  refine r_bipush (n := 182) (v := 6) dX11_init_180 (by decide) rfl ?_
  refine r_icmp_ge (n := 185) (tgt := 198) dX11_init_182 (by decide) rfl (fun _ => ?_) (fun q => absurd (by decide) q)
  refine r_iconst (n := 199) (v := 0) dX11_init_198 (by decide) rfl ?_
  refine r_istore_n (n := 200) (lv' := [(1, .int 0), (0, .ref (og_b g + 129))]) dX11_init_199 rfl (by decide) rfl rfl ?_
  refine r_iload_n (n := 201) 0 dX11_init_200 rfl rfl ?_
  refine r_iconst (n := 202) (v := 4) dX11_init_201 (by decide) rfl ?_
  refine r_icmp_ge (n := 205) (tgt := 218) dX11_init_202 (by decide) rfl (fun q => absurd q (by decide)) (fun _ => ?_)
  refine r_aload_n (n := 206) 1 dX11_init_205 rfl rfl ?_
  refine p_getR (n := 209) (x := 134) (m := 150) (a := 129) 8 (by decide +kernel) (by decide) cls_10 fi_10_8 (ps_obj (by decide +kernel)) gw_1034 dX11_init_206 rfl ?_
  refine r_iload_n (n := 210) 0 dX11_init_209 rfl rfl ?_
  refine r_iconst (n := 211) (v := (-1)) dX11_init_210 (by decide) rfl ?_
  refine p_iast (n := 212) (m := 150) (a := 134) (j := 0) (L' := [(134, 1), (134, 2), (134, 3)]) (z := 4) (by decide +kernel) (by decide +kernel) (by decide) (ps_arr (by decide +kernel)) (vp_in_nI (n := 0) (N := 4) (by decide) (by decide)) dX11_init_211 rfl ?_
  refine r_iinc (n := 215) (v := 1) (lv' := [(1, .int 1), (0, .ref (og_b g + 129))]) 0 dX11_init_212 rfl (by decide) (by decide) rfl rfl ?_
  refine r_goto (n := 200) dX11_init_215 (by decide) ?_
  refine r_iload_n (n := 201) 0 dX11_init_200 rfl rfl ?_
  refine r_iconst (n := 202) (v := 4) dX11_init_201 (by decide) rfl ?_
  refine r_icmp_ge (n := 205) (tgt := 218) dX11_init_202 (by decide) rfl (fun q => absurd q (by decide)) (fun _ => ?_)
  refine r_aload_n (n := 206) 1 dX11_init_205 rfl rfl ?_
  refine p_getR (n := 209) (x := 134) (m := 150) (a := 129) 8 (by decide +kernel) (by decide) cls_10 fi_10_8 (ps_obj (by decide +kernel)) gw_1034 dX11_init_206 rfl ?_
  refine r_iload_n (n := 210) 0 dX11_init_209 rfl rfl ?_
  refine r_iconst (n := 211) (v := (-1)) dX11_init_210 (by decide) rfl ?_
  refine p_iast (n := 212) (m := 150) (a := 134) (j := 1) (L' := [(134, 2), (134, 3)]) (z := 4) (by decide +kernel) (by decide +kernel) (by decide) (ps_arr (by decide +kernel)) (vp_in_nI (n := 1) (N := 4) (by decide) (by decide)) dX11_init_211 rfl ?_
  refine r_iinc (n := 215) (v := 2) (lv' := [(1, .int 2), (0, .ref (og_b g + 129))]) 0 dX11_init_212 rfl (by decide) (by decide) rfl rfl ?_
  refine r_goto (n := 200) dX11_init_215 (by decide) ?_
  refine r_iload_n (n := 201) 0 dX11_init_200 rfl rfl ?_
  refine r_iconst (n := 202) (v := 4) dX11_init_201 (by decide) rfl ?_
  refine r_icmp_ge (n := 205) (tgt := 218) dX11_init_202 (by decide) rfl (fun q => absurd q (by decide)) (fun _ => ?_)
  refine r_aload_n (n := 206) 1 dX11_init_205 rfl rfl ?_
  refine p_getR (n := 209) (x := 134) (m := 150) (a := 129) 8 (by decide +kernel) (by decide) cls_10 fi_10_8 (ps_obj (by decide +kernel)) gw_1034 dX11_init_206 rfl ?_
  refine r_iload_n (n := 210) 0 dX11_init_209 rfl rfl ?_
  refine r_iconst (n := 211) (v := (-1)) dX11_init_210 (by decide) rfl ?_
  refine p_iast (n := 212) (m := 150) (a := 134) (j := 2) (L' := [(134, 3)]) (z := 4) (by decide +kernel) (by decide +kernel) (by decide) (ps_arr (by decide +kernel)) (vp_in_nI (n := 2) (N := 4) (by decide) (by decide)) dX11_init_211 rfl ?_
  refine r_iinc (n := 215) (v := 3) (lv' := [(1, .int 3), (0, .ref (og_b g + 129))]) 0 dX11_init_212 rfl (by decide) (by decide) rfl rfl ?_
  refine r_goto (n := 200) dX11_init_215 (by decide) ?_
  refine r_iload_n (n := 201) 0 dX11_init_200 rfl rfl ?_
  refine r_iconst (n := 202) (v := 4) dX11_init_201 (by decide) rfl ?_
  refine r_icmp_ge (n := 205) (tgt := 218) dX11_init_202 (by decide) rfl (fun q => absurd q (by decide)) (fun _ => ?_)
  refine r_aload_n (n := 206) 1 dX11_init_205 rfl rfl ?_
  refine p_getR (n := 209) (x := 134) (m := 150) (a := 129) 8 (by decide +kernel) (by decide) cls_10 fi_10_8 (ps_obj (by decide +kernel)) gw_1034 dX11_init_206 rfl ?_
  refine r_iload_n (n := 210) 0 dX11_init_209 rfl rfl ?_
  refine r_iconst (n := 211) (v := (-1)) dX11_init_210 (by decide) rfl ?_
  refine p_iast (n := 212) (m := 150) (a := 134) (j := 3) (L' := []) (z := 4) (by decide +kernel) (by decide +kernel) (by decide) (ps_arr (by decide +kernel)) (vp_in_nI (n := 3) (N := 4) (by decide) (by decide)) dX11_init_211 rfl ?_
  refine r_iinc (n := 215) (v := 4) (lv' := [(1, .int 4), (0, .ref (og_b g + 129))]) 0 dX11_init_212 rfl (by decide) (by decide) rfl rfl ?_
  refine r_goto (n := 200) dX11_init_215 (by decide) ?_
  refine r_iload_n (n := 201) 0 dX11_init_200 rfl rfl ?_
  refine r_iconst (n := 202) (v := 4) dX11_init_201 (by decide) rfl ?_
  refine r_icmp_ge (n := 205) (tgt := 218) dX11_init_202 (by decide) rfl (fun _ => ?_) (fun q => absurd (by decide) q)
  exact r_vret (st := []) dX11_init_218 rfl rfl

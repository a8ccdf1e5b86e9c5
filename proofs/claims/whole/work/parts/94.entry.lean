/-! ===== the law's entry: both objects are made ===== -/
set_option maxRecDepth 20000 in
theorem lw_entry {g : OG} {L : Nat} {xs : Nat → Int32} {nm : String} (hscr : scr_xs g L xs) {d : Nat} (hL : L ≤ 384) : ORuns g (d + 18 + 1) 150 5109 (iLw nm) 0 [(0, .ref (og_s g))] [] (PS 0 []) (qI (fun r _ _ => r = 1)) := by
  refine p_new (n := 3) (m := 0) (L' := [(1, 0), (1, 1), (1, 2), (1, 3), (1, 4), (1, 5), (1, 6), (1, 7), (1, 8), (1, 9), (1, 10), (1, 11), (1, 12), (1, 16)]) (mc := 149) (ms := 5092) (by decide +kernel) (by decide +kernel) cls_9 ⟨gw_79, gw_80, gw_64⟩ dv_9 dL_law_0 rfl ?_
  show ORuns g (d + 18 + 1) 149 5092 (iLw nm) 3 [(0, .ref (og_s g))] [.ref (og_b g + 1)] (PS 1 [(1, 0), (1, 1), (1, 2), (1, 3), (1, 4), (1, 5), (1, 6), (1, 7), (1, 8), (1, 9), (1, 10), (1, 11), (1, 12), (1, 16)]) _
  refine r_dup (n := 4) dL_law_3 rfl rfl ?_
  refine r_callI (n := 7) (a := 1) (mc' := 127) (ms' := 1228) (mc := 22) (ms := 3864) (As := []) (rest := [.ref (og_b g + 1)]) cm_X10_init gw_81 rfl (Nat.le_of_ble_eq_true rfl) dL_law_4 rfl (ocall_mono (fun v h' e => ?_) (k_1 (d := d + 15)))
  obtain ⟨rfl, rfl⟩ := e
  show ORuns g (d + 18 + 1) 22 3864 (iLw nm) 7 [(0, .ref (og_s g))] [.ref (og_b g + 1)] (PS 128 []) _
  refine r_astore_n (n := 8) (lv' := [(1, .ref (og_b g + 1)), (0, .ref (og_s g))]) dL_law_7 rfl (Nat.le_of_ble_eq_true rfl) rfl rfl ?_
  refine p_new (n := 11) (m := 128) (L' := [(129, 1), (129, 4), (129, 5), (129, 6), (129, 7), (129, 8), (129, 9), (129, 12), (129, 13), (129, 14), (129, 18), (129, 19), (129, 20), (129, 21), (129, 23), (129, 24), (129, 25), (129, 26), (129, 27), (129, 28), (129, 29), (129, 30)]) (mc := 21) (ms := 3826) (by decide +kernel) (by decide +kernel) cls_10 ⟨gw_1020, gw_1021, gw_74⟩ dv_10 dL_law_8 rfl ?_
  show ORuns g (d + 18 + 1) 21 3826 (iLw nm) 11 [(1, .ref (og_b g + 1)), (0, .ref (og_s g))] [.ref (og_b g + 129)] (PS 129 [(129, 1), (129, 4), (129, 5), (129, 6), (129, 7), (129, 8), (129, 9), (129, 12), (129, 13), (129, 14), (129, 18), (129, 19), (129, 20), (129, 21), (129, 23), (129, 24), (129, 25), (129, 26), (129, 27), (129, 28), (129, 29), (129, 30)]) _
  refine r_dup (n := 12) dL_law_11 rfl rfl ?_
  refine r_callI (n := 15) (a := 129) (mc' := 21) (ms' := 3826) (mc := 0) (ms := 0) (As := []) (rest := [.ref (og_b g + 129)]) cm_X11_init gw_1022 rfl (Nat.le_of_ble_eq_true rfl) dL_law_12 rfl (ocall_mono (fun v h' e => ?_) (k_129 (d := d + 17)))
  obtain ⟨rfl, rfl⟩ := e
  show ORuns g (d + 18 + 1) 0 0 (iLw nm) 15 [(1, .ref (og_b g + 1)), (0, .ref (og_s g))] [.ref (og_b g + 129)] (PS 150 []) _
  refine r_astore_n (n := 16) (lv' := [(2, .ref (og_b g + 129)), (1, .ref (og_b g + 1)), (0, .ref (og_s g))]) dL_law_15 rfl (Nat.le_of_ble_eq_true rfl) rfl rfl ?_
  refine r_iconst (n := 17) (v := 0) dL_law_16 (by decide) rfl ?_
  refine r_istore_n (n := 18) (lv' := [(3, .int 0), (2, .ref (og_b g + 129)), (1, .ref (og_b g + 1)), (0, .ref (og_s g))]) dL_law_17 rfl (Nat.le_of_ble_eq_true rfl) rfl rfl ?_
  rw [PS_end]
  exact r_sub [3, 2, 1, 0] rfl (lw_loop hscr hL (fun _ _ _ => rfl) (L + 1) 0 IFt (LFt, 0, 0) inv_first (Nat.zero_le _) (by omega))

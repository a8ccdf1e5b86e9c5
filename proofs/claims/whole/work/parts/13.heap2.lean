/-! ===== rows of the heap, by kinds ===== -/
section HR2
variable {g : OG} {d mc ms : Nat} {mi : MI} {pc n : Nat} {lv : List (Nat × Value)} {st : List Value} {h : OH} {Q : OQ}
variable {ci N idx a : Nat} {C : String} {T : u_T} {ty : Nat → FieldType}
theorem upd_self {f : Nat → Int32} {k : Nat} {x : Int32} : upd f k x k = x := by unfold upd; rw [if_pos rfl]
theorem upd_ne {f : Nat → Int32} {k j : Nat} {x : Int32} (hj : j ≠ k) : upd f k x j = f j := by unfold upd; rw [if_neg hj]
theorem setI_o {b : Nat} {k : Nat} {v : Int32} (hb : b ≠ a) : cellOf g (oh_setI h a k v) b = cellOf g h b := cell_other rfl (set2_ne hb) rfl rfl
theorem setL_o {b : Nat} {k : Nat} {v : Int64} (hb : b ≠ a) : cellOf g (oh_setL h a k v) b = cellOf g h b := cell_other rfl rfl (set2L_ne hb) rfl
theorem setR_o {b : Nat} {k v : Nat} (hb : b ≠ a) : cellOf g (oh_setR h a k v) b = cellOf g h b := cell_other rfl rfl rfl (set2R_ne hb)
theorem setI_f {k : Nat} {v : Int32} (hk : fk ci k = 0) : fval g (oh_setI h a k v) ci a k = .int v := by
  unfold fval
  rw [if_pos hk]
  show Value.int (set2 h.2.1 a k v a k) = _
  rw [set2_eq, upd_self]
theorem setI_j {k j : Nat} {v : Int32} (hj : j ≠ k) : fval g (oh_setI h a k v) ci a j = fval g h ci a j := by
  unfold fval
  show (if fk ci j = 0 then Value.int (set2 h.2.1 a k v a j) else _) = _
  rw [set2_eq, upd_ne hj]
  rfl
theorem setL_f {k : Nat} {v : Int64} (hk : fk ci k = 1) : fval g (oh_setL h a k v) ci a k = .long v := by
  unfold fval
  rw [if_neg (by rw [hk]; decide), if_pos hk]
  show Value.long (set2L h.2.2.1 a k v a k) = _
  rw [set2L_eq]
  unfold vp_updL
  rw [if_pos rfl]
theorem setL_j {k j : Nat} {v : Int64} (hj : j ≠ k) : fval g (oh_setL h a k v) ci a j = fval g h ci a j := by
  unfold fval
  show (if fk ci j = 0 then _ else if fk ci j = 1 then Value.long (set2L h.2.2.1 a k v a j) else _) = _
  rw [set2L_eq]
  unfold vp_updL
  rw [if_neg hj]
  rfl
theorem setR_f {k v : Nat} (hk : fk ci k = 2) (hv : v ≠ 0) : fval g (oh_setR h a k v) ci a k = .ref (og_b g + v) := by
  unfold fval
  rw [if_neg (by rw [hk]; decide), if_neg (by rw [hk]; decide)]
  show va_rf (or_e (og_b g) (set2R h.2.2.2 a k v a k)) = _
  rw [set2R_eq, va_up_self, or_e_ref rfl hv]
theorem setR_j {k j v : Nat} (hj : j ≠ k) : fval g (oh_setR h a k v) ci a j = fval g h ci a j := by
  unfold fval
  show (if fk ci j = 0 then _ else if fk ci j = 1 then _ else va_rf (or_e (og_b g) (set2R h.2.2.2 a k v a j))) = _
  rw [set2R_eq, va_up_ne _ _ hj]
  rfl
theorem r_putI {v : Int32} (hc : CLS ci C T N ty) (k : Nat) (hk : k < N ∧ fk ci k = 0 ∧ ty k = .int ∧ (T k).2.2.2 = false) (ha : IsObj h a ci) (hlink : Cond.fieldLink mi.1.cls idx (T k).1 (T k).2.1 (T k).2.2.1 ∈ GW) (hd : decode mi.2.1 pc = .ok (.putfield idx, 3)) (hn : pc + 3 = n)
    (kk : ORuns g d mc ms mi n lv st (oh_setI h a k v) Q) : ORuns g d mc ms mi pc lv (.int v :: .ref (og_b g + a) :: st) h Q :=
  r_putV (h' := oh_setI h a k v) hc k hk.1 ha hlink hd hn (Or.inl hk.2.2.2) (by rw [hk.2.2.1]; rfl) (by rw [hk.2.2.1]; rfl) rfl (setI_f hk.2.1) (fun j hj => setI_j hj) (fun b hb => setI_o hb) kk
theorem r_putZ {v : Int32} (hv : v = 0 ∨ v = 1) (hc : CLS ci C T N ty) (k : Nat) (hk : k < N ∧ fk ci k = 0 ∧ ty k = .boolean ∧ (T k).2.2.2 = false) (ha : IsObj h a ci) (hlink : Cond.fieldLink mi.1.cls idx (T k).1 (T k).2.1 (T k).2.2.1 ∈ GW) (hd : decode mi.2.1 pc = .ok (.putfield idx, 3)) (hn : pc + 3 = n)
    (kk : ORuns g d mc ms mi n lv st (oh_setI h a k v) Q) : ORuns g d mc ms mi pc lv (.int v :: .ref (og_b g + a) :: st) h Q :=
  r_putV (h' := oh_setI h a k v) hc k hk.1 ha hlink hd hn (Or.inl hk.2.2.2) (by rw [hk.2.2.1]; rcases hv with e | e <;> rw [e] <;> rfl) (by rw [hk.2.2.1]; rcases hv with e | e <;> rw [e] <;> rfl) rfl (setI_f hk.2.1) (fun j hj => setI_j hj) (fun b hb => setI_o hb) kk
theorem r_putL {v : Int64} (hc : CLS ci C T N ty) (k : Nat) (hk : k < N ∧ fk ci k = 1 ∧ ty k = .long ∧ (T k).2.2.2 = false) (ha : IsObj h a ci) (hlink : Cond.fieldLink mi.1.cls idx (T k).1 (T k).2.1 (T k).2.2.1 ∈ GW) (hd : decode mi.2.1 pc = .ok (.putfield idx, 3)) (hn : pc + 3 = n)
    (kk : ORuns g d mc ms mi n lv st (oh_setL h a k v) Q) : ORuns g d mc ms mi pc lv (.long v :: .ref (og_b g + a) :: st) h Q :=
  r_putV (h' := oh_setL h a k v) hc k hk.1 ha hlink hd hn (Or.inl hk.2.2.2) (by rw [hk.2.2.1]; rfl) (by rw [hk.2.2.1]; rfl) rfl (setL_f hk.2.1) (fun j hj => setL_j hj) (fun b hb => setL_o hb) kk
theorem r_putR {v : Nat} (hv : v ≠ 0) (hc : CLS ci C T N ty) (k : Nat) (hk : k < N ∧ fk ci k = 2) (hfin : (T k).2.2.2 = false ∨ ((T k).2.2.2 = true ∧ mi.1.name = "<init>" ∧ (T k).1 = mi.1.cls)) (hty : ∀ x, narrow (ty k) (.ref x) = .ref x ∧ fits (ty k) (.ref x) = true) (ha : IsObj h a ci) (hlink : Cond.fieldLink mi.1.cls idx (T k).1 (T k).2.1 (T k).2.2.1 ∈ GW) (hd : decode mi.2.1 pc = .ok (.putfield idx, 3)) (hn : pc + 3 = n)
    (kk : ORuns g d mc ms mi n lv st (oh_setR h a k v) Q) : ORuns g d mc ms mi pc lv (.ref (og_b g + v) :: .ref (og_b g + a) :: st) h Q :=
  r_putV (h' := oh_setR h a k v) hc k hk.1 ha hlink hd hn hfin (hty _).1 (hty _).2 rfl (setR_f hk.2 hv) (fun j hj => setR_j hj) (fun b hb => setR_o hb) kk
theorem setR_n {k : Nat} (hk : fk ci k = 2) : fval g (oh_setR h a k 0) ci a k = .null := by
  unfold fval
  rw [if_neg (by rw [hk]; decide), if_neg (by rw [hk]; decide)]
  show va_rf (or_e (og_b g) (set2R h.2.2.2 a k 0 a k)) = _
  rw [set2R_eq, va_up_self]
  rfl
theorem r_putNull (hc : CLS ci C T N ty) (k : Nat) (hk : k < N ∧ fk ci k = 2) (hfin : (T k).2.2.2 = false) (hty : narrow (ty k) .null = .null ∧ fits (ty k) .null = true) (ha : IsObj h a ci) (hlink : Cond.fieldLink mi.1.cls idx (T k).1 (T k).2.1 (T k).2.2.1 ∈ GW) (hd : decode mi.2.1 pc = .ok (.putfield idx, 3)) (hn : pc + 3 = n)
    (kk : ORuns g d mc ms mi n lv st (oh_setR h a k 0) Q) : ORuns g d mc ms mi pc lv (.null :: .ref (og_b g + a) :: st) h Q :=
  r_putV (h' := oh_setR h a k 0) hc k hk.1 ha hlink hd hn (Or.inl hfin) hty.1 hty.2 rfl (setR_n hk.2) (fun j hj => setR_j hj) (fun b hb => setR_o hb) kk
-- arrays
theorem r_iald {z : Nat} {i : Int32} (ha : IsArr h a 11 z) (hi : vp_in i z) (hd : decode mi.2.1 pc = .ok (.iaload, 1)) (hn : pc + 1 = n) (kk : ORuns g d mc ms mi n lv (.int (oh_I h a i.toNatClampNeg) :: st) h Q) : ORuns g d mc ms mi pc lv (.int i :: .ref (og_b g + a) :: st) h Q := by
  subst hn
  intro p e R s m args below meth c H locs cells slots tc ts ls C hc1 hs hH hS hl
  obtain ⟨j, e1, hj, e2⟩ := arr_at (g := g) ha (by decide) (by decide)
  exact va_iald C.1 C.2.1 C.2.2.2.2.2.1.1 hH.2.1 j 0 e2 rfl hi hd (kk p e R s m args below meth c H locs cells slots tc ts ls C hc1 hs hH hS hl)
theorem r_bald {z : Nat} {i : Int32} (ha : IsArr h a 12 z) (hi : vp_in i z) (hd : decode mi.2.1 pc = .ok (.baload, 1)) (hn : pc + 1 = n) (kk : ORuns g d mc ms mi n lv (.int (oh_I h a i.toNatClampNeg) :: st) h Q) : ORuns g d mc ms mi pc lv (.int i :: .ref (og_b g + a) :: st) h Q := by
  subst hn
  intro p e R s m args below meth c H locs cells slots tc ts ls C hc1 hs hH hS hl
  obtain ⟨j, e1, hj, e2⟩ := arr_at (g := g) ha (by decide) (by decide)
  exact va_bald C.1 C.2.1 C.2.2.2.2.2.1.1 hH.2.1 j 1 e2 rfl hi hd (kk p e R s m args below meth c H locs cells slots tc ts ls C hc1 hs hH hS hl)
theorem r_zald {z : Nat} {i : Int32} (ha : IsArr h a 13 z) (hi : vp_in i z) (hd : decode mi.2.1 pc = .ok (.baload, 1)) (hn : pc + 1 = n) (kk : ORuns g d mc ms mi n lv (.int (oh_I h a i.toNatClampNeg) :: st) h Q) : ORuns g d mc ms mi pc lv (.int i :: .ref (og_b g + a) :: st) h Q := by
  subst hn
  intro p e R s m args below meth c H locs cells slots tc ts ls C hc1 hs hH hS hl
  obtain ⟨j, e1, hj, e2⟩ := arr_at (g := g) ha (by decide) (by decide)
  exact va_zald C.1 C.2.1 C.2.2.2.2.2.1.1 hH.2.1 j 2 e2 rfl hi hd (kk p e R s m args below meth c H locs cells slots tc ts ls C hc1 hs hH hS hl)
theorem r_aald {z t0 x : Nat} {K : String} {t : Nat} {i : Int32} (ha : IsArr h a t z) (ht : 14 ≤ t) (hty : ∀ g : OG, (og_tys g)[t0]? = some (og_A g t, .object K)) (hi : vp_in i z) (hd : decode mi.2.1 pc = .ok (.aaload, 1)) (hn : pc + 1 = n) (hx : oh_R h a i.toNatClampNeg = x) (hx0 : x ≠ 0) (kk : ORuns g d mc ms mi n lv (.ref (og_b g + x) :: st) h Q) : ORuns g d mc ms mi pc lv (.int i :: .ref (og_b g + a) :: st) h Q := by
  subst hn
  intro p e R s m args below meth c H locs cells slots tc ts ls C hc1 hs hH hS hl
  obtain ⟨j, e1, hj, e2⟩ := rar_at (g := g) ha ht
  refine va_aldq C.1 C.2.1 C.2.2.2.2.2.1.1 hH.2.1 j t0 e2 (hty g) hi hd ?_
  rw [or_e_ref hx hx0]
  exact kk p e R s m args below meth c H locs cells slots tc ts ls C hc1 hs hH hS hl
/-- what a write of an int array leaves -/
theorem arr_end {z t i : Nat} {f : Nat → Int32} {h' : OH} {H H1 : Heap} {ai : Nat} (ha : IsArr h a t z) (e1 : a = i + 1) (ht : 11 ≤ t ∧ t < 14) (hH : HOk g h H) (hs1 : h'.1 = h.1) (hf : oh_I h' a = f) (hoth : ∀ b, b ≠ a → cellOf g h' b = cellOf g h b)
    (hP1 : va_P (og_D g) vwCl ((wsO g h).set i (og_b g + a, .inl (og_A g t, z, .inl f))) H1) : va_P (og_D g) vwCl (wsO g h') H1 := by
  have hcell : cellOf g h' a = .inl (og_A g t, z, .inl f) := by
    unfold cellOf
    rw [show oh_t h' a = t by show h'.1.2.1 a = t; rw [hs1]; exact ha.2.1, show oh_z h' a = z by show h'.1.2.2 a = z; rw [hs1]; exact ha.2.2, if_neg (by omega), if_pos ht.2, hf]
  rw [← hcell, e1] at hP1
  rw [wsO_set (h' := h') (by show h'.1.1 = h.1.1; rw [hs1]) (fun b hb => hoth b (by rw [e1]; exact hb))] at hP1
  exact hP1
/-- the cells of a picture say how large the heap is, and our cells lie apart from the script -/
theorem hok_of {h' : OH} {H H1 : Heap} (hH : HOk g h H) (hs1 : h'.1 = h.1) (hP : va_P (og_D g) vwCl (wsO g h') H1) (hz : H1.size = H.size) (ho : ∀ q : Nat, ¬ og_b g < q → H1[q]? = H[q]?) : HOk g h' H1 :=
  ⟨by rw [hz, hH.1]; show _ = og_b g + 1 + h'.1.1; rw [hs1], hP, by rw [ho _ (by have := hH.2.2.2; omega)]; exact hH.2.2.1, hH.2.2.2⟩
end HR2

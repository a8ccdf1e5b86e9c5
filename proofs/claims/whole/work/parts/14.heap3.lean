/-! ===== writes of arrays ===== -/
section HR3
variable {g : OG} {d mc ms : Nat} {mi : MI} {pc n : Nat} {lv : List (Nat × Value)} {st : List Value} {h : OH} {Q : OQ} {a : Nat}
theorem r_iast {z : Nat} {i x : Int32} (ha : IsArr h a 11 z) (hi : vp_in i z) (hd : decode mi.2.1 pc = .ok (.iastore, 1)) (hn : pc + 1 = n) (kk : ORuns g d mc ms mi n lv st (oh_setI h a i.toNatClampNeg x) Q) : ORuns g d mc ms mi pc lv (.int x :: .int i :: .ref (og_b g + a) :: st) h Q := by
  subst hn
  intro p e R s m args below meth c H locs cells slots tc ts ls C hc1 hs hH hS hl
  obtain ⟨j, e1, hj, e2⟩ := arr_at (g := g) ha (by decide) (by decide)
  refine W.iast C.1 C.2.1 (hH.2.1 j _ e2) ((C.2.2.2.2.2.1.1.2 0 _ rfl).1 z (fun j => .int (oh_I h a j))) (fun q => by cases q) (by show ¬ (i < 0 ∨ (arrV _ _ _).slots.size ≤ _); rw [arrV_size]; exact hi) rfl rfl hd fun H1 e' z' oq => ?_
  have hP1 : va_P (og_D g) vwCl ((wsO g h).set j (og_b g + a, .inl (og_A g 11, z, .inl (upd (oh_I h a) i.toNatClampNeg x)))) H1 := by
    refine hH.2.1.set (wsO_D g h) e2 ?_ oq
    show H1[og_b g + a]? = some (vp_cell _ _)
    rw [e', vp_cell_i, vp_cell_i, arrV_store]
    congr 2
    funext q
    by_cases hq : q = i.toNatClampNeg
    · subst hq
      simp [updV, upd]
    · simp [updV, upd, hq]
  have hP2 := arr_end (h' := oh_setI h a i.toNatClampNeg x) (ai := 0) ha e1 ⟨by decide, by decide⟩ hH rfl (set2_eq) (fun b hb => setI_o hb) hP1
  exact kk p e R s m args below meth c H1 _ cells slots tc ts ls C hc1 hs (hok_of hH rfl hP2 z' (fun q hq => oq q (fun e => hq (by rw [e]; have := ha.1.1; show og_b g < og_b g + a; omega)))) (hS.put (by have := ha.1.1; show og_b g < og_b g + a; omega)) hl
theorem r_bast {z : Nat} {i x : Int32} (ha : IsArr h a 12 z) (hi : vp_in i z) (hd : decode mi.2.1 pc = .ok (.bastore, 1)) (hn : pc + 1 = n) (kk : ORuns g d mc ms mi n lv st (oh_setI h a i.toNatClampNeg (vp_nar .byte x)) Q) : ORuns g d mc ms mi pc lv (.int x :: .int i :: .ref (og_b g + a) :: st) h Q := by
  subst hn
  intro p e R s m args below meth c H locs cells slots tc ts ls C hc1 hs hH hS hl
  obtain ⟨j, e1, hj, e2⟩ := arr_at (g := g) ha (by decide) (by decide)
  refine W.bast C.1 C.2.1 (hH.2.1 j _ e2) ((C.2.2.2.2.2.1.1.2 1 _ rfl).1 z (fun j => .int (oh_I h a j))) (fun q => by cases q) (by show ¬ (i < 0 ∨ (arrV _ _ _).slots.size ≤ _); rw [arrV_size]; exact hi) rfl rfl hd fun H1 e' z' oq => ?_
  have hP1 : va_P (og_D g) vwCl ((wsO g h).set j (og_b g + a, .inl (og_A g 12, z, .inl (upd (oh_I h a) i.toNatClampNeg (vp_nar .byte x))))) H1 := by
    refine hH.2.1.set (wsO_D g h) e2 ?_ oq
    show H1[og_b g + a]? = some (vp_cell _ _)
    rw [e', vp_cell_i, vp_cell_i, arrV_store]
    congr 2
    funext q
    by_cases hq : q = i.toNatClampNeg
    · subst hq
      simp [updV, upd, vp_nar]
      try rfl
    · simp [updV, upd, hq]
  have hP2 := arr_end (h' := oh_setI h a i.toNatClampNeg (vp_nar .byte x)) (ai := 0) ha e1 ⟨by decide, by decide⟩ hH rfl (set2_eq) (fun b hb => setI_o hb) hP1
  exact kk p e R s m args below meth c H1 _ cells slots tc ts ls C hc1 hs (hok_of hH rfl hP2 z' (fun q hq => oq q (fun e => hq (by rw [e]; have := ha.1.1; show og_b g < og_b g + a; omega)))) (hS.put (by have := ha.1.1; show og_b g < og_b g + a; omega)) hl
theorem nar_b (x : Int32) : vp_nar .byte x.toInt8.toInt32 = x.toInt8.toInt32 := pk_vb x
theorem nar_z {x : Int32} (h : x = 0 ∨ x = 1) : vp_nar .boolean x = x := by rcases h with e | e <;> rw [e] <;> rfl
theorem r_zast {z : Nat} {i x : Int32} (hx : x = 0 ∨ x = 1) (ha : IsArr h a 13 z) (hi : vp_in i z) (hd : decode mi.2.1 pc = .ok (.bastore, 1)) (hn : pc + 1 = n) (kk : ORuns g d mc ms mi n lv st (oh_setI h a i.toNatClampNeg x) Q) : ORuns g d mc ms mi pc lv (.int x :: .int i :: .ref (og_b g + a) :: st) h Q := by
  subst hn
  intro p e R s m args below meth c H locs cells slots tc ts ls C hc1 hs hH hS hl
  obtain ⟨j, e1, hj, e2⟩ := arr_at (g := g) ha (by decide) (by decide)
  refine W.zast C.1 C.2.1 (hH.2.1 j _ e2) ((C.2.2.2.2.2.1.1.2 2 _ rfl).1 z (fun j => .int (oh_I h a j))) (fun q => by cases q) (by show ¬ (i < 0 ∨ (arrV _ _ _).slots.size ≤ _); rw [arrV_size]; exact hi) rfl rfl hd fun H1 e' z' oq => ?_
  have hP1 : va_P (og_D g) vwCl ((wsO g h).set j (og_b g + a, .inl (og_A g 13, z, .inl (upd (oh_I h a) i.toNatClampNeg (vp_nar .boolean x))))) H1 := by
    refine hH.2.1.set (wsO_D g h) e2 ?_ oq
    show H1[og_b g + a]? = some (vp_cell _ _)
    rw [e', vp_cell_i, vp_cell_i, arrV_store]
    congr 2
    funext q
    by_cases hq : q = i.toNatClampNeg
    · subst hq
      simp [updV, upd, vp_nar]
      try rfl
    · simp [updV, upd, hq]
  rw [nar_z hx] at hP1
  have hP2 := arr_end (h' := oh_setI h a i.toNatClampNeg x) (ai := 0) ha e1 ⟨by decide, by decide⟩ hH rfl (set2_eq) (fun b hb => setI_o hb) hP1
  exact kk p e R s m args below meth c H1 _ cells slots tc ts ls C hc1 hs (hok_of hH rfl hP2 z' (fun q hq => oq q (fun e => hq (by rw [e]; have := ha.1.1; show og_b g < og_b g + a; omega)))) (hS.put (by have := ha.1.1; show og_b g < og_b g + a; omega)) hl
theorem setRow_o {b : Nat} {f : Nat → Int32} (hb : b ≠ a) : cellOf g (oh_setRow h a f) b = cellOf g h b := cell_other rfl (by show (if b = a then f else h.2.1 b) = _; rw [if_neg hb]) rfl rfl
theorem i32_nn {z : Int32} (hz : ¬ z < 0) : z.toInt = (z.toNatClampNeg : Int) := by
  have h0 : (0 : Int) ≤ z.toInt := by
    have := Int32.not_lt.mp hz
    simpa using Int32.le_iff_toInt_le.mp this
  show z.toInt = ((z.toInt.toNat : Nat) : Int)
  omega
/-- System.arraycopy of ints -/
theorem r_copy {z0 z1 a0 idx : Nat} {sp dp len : Int32} (ha0 : IsArr h a0 11 z0) (ha : IsArr h a 11 z1) (hg : Cond.methodLink mi.1.cls idx arraycopyName ∈ GW ∧ Cond.native arraycopyName ∈ GW ∧ Cond.static arraycopyName ∈ GW ∧ Cond.initialized "java/lang/System" ∈ GW)
    (hb : (¬ sp < 0 ∧ ¬ dp < 0 ∧ ¬ len < 0) ∧ sp.toNatClampNeg + len.toNatClampNeg ≤ z0 ∧ dp.toNatClampNeg + len.toNatClampNeg ≤ z1) (hr : (st.map fun v => v.category).sum ≤ 8) (hd : decode mi.2.1 pc = .ok (.invokestatic idx, 3)) (hn : pc + 3 = n)
    (kk : ORuns g (d + 1) mc ms mi n lv st (oh_setRow h a (va_cpy (oh_I h a0) (oh_I h a) sp.toNatClampNeg dp.toNatClampNeg len.toNatClampNeg)) Q) : ORuns g (d + 1) mc ms mi pc lv (.int len :: .int dp :: .ref (og_b g + a) :: .int sp :: .ref (og_b g + a0) :: st) h Q := by
  subst hn
  intro p e R s m args below meth c H locs cells slots tc ts ls C hc1 hs hH hS hl T hT X
  obtain ⟨j0, e10, hj0, e20⟩ := arr_at (g := g) ha0 (by decide) (by decide)
  obtain ⟨j, e1, hj, e2⟩ := arr_at (g := g) ha (by decide) (by decide)
  have q0 : H[og_b g + a0]? = some (vp_cell (og_A g 11) (z0, .inl (oh_I h a0))) := hH.2.1 j0 _ e20
  have q1 : H[og_b g + a]? = some (vp_cell (og_A g 11) (z1, .inl (oh_I h a))) := hH.2.1 j _ e2
  obtain ⟨-, k0, hk0, cm0, hkk0⟩ := (C.2.2.2.2.2.1.1.2 0 _ rfl).1 z0 (fun j => .int (oh_I h a0 j))
  obtain ⟨-, k1, hk1, cm1, hkk1⟩ := (C.2.2.2.2.2.1.1.2 0 _ rfl).1 z1 (fun j => .int (oh_I h a j))
  have hw : nativeFrameWords "java/lang/System" "arraycopy" 5 + 11 ≤ 40 := by decide +kernel
  have hfr := C.2.2.2.2.2.2.2.2.2.1
  have hlo := C.2.2.2.2.2.2.2.2.2.2.1
  obtain ⟨vm', X', step⟩ := X.arraycopy C.1 C.2.2.2.1 (C.2.2.2.2.1 _ hg.1) (C.2.2.2.2.1 _ hg.2.1) (C.2.2.2.2.1 _ hg.2.2.1) (C.2.2.2.2.1 _ hg.2.2.2) (src := og_b g + a0) (dst := og_b g + a) (cs := vp_cell (og_A g 11) (z0, .inl (oh_I h a0))) (cd := vp_cell (og_A g 11) (z1, .inl (oh_I h a))) (srcPos := sp) (destPos := dp) (n := len) (by rw [hT]; exact q0) (by rw [hT]; exact q1)
    (fun _ h => by cases h) (fun _ h => by cases h) (fun h => by cases h) (fun h => by cases h) hk0 hk1 hkk0 hkk1 (by simp [refKind]) hb.1.1 hb.1.2.1 hb.1.2.2
    (by rw [i32_nn hb.1.1, i32_nn hb.1.2.2]; show ¬ _ > ((arrV (og_A g 11) z0 (fun j => .int (oh_I h a0 j))).slots.size : Int); rw [arrV_size]; omega)
    (by rw [i32_nn hb.1.2.1, i32_nn hb.1.2.2]; show ¬ _ > ((arrV (og_A g 11) z1 (fun j => .int (oh_I h a j))).slots.size : Int); rw [arrV_size]; omega)
    (fun vm₁ _ i hi => by
      have e : (vp_cell (og_A g 11) (z0, .inl (oh_I h a0))).slots.getD (sp.toNatClampNeg + i) .null = .int (oh_I h a0 (sp.toNatClampNeg + i)) := by
        show (arrV (og_A g 11) z0 (fun j => .int (oh_I h a0 j))).slots.getD _ _ = _
        rw [Array.getD_eq_getD_getElem?, arrV_read _ _ (by omega)]
        rfl
      rw [e]
      exact ⟨rfl, trivial⟩)
    (g := F0 m pc ls (.int len :: .int dp :: .ref (og_b g + a) :: .int sp :: .ref (og_b g + a0) :: st)) rfl (by rw [C.2.2.1]; exact hl.1) (rest := st) rfl (by rw [C.2.1]; exact hd) (by omega) (by show 2 * 0 + _ + _ ≤ _; omega)
  have ec : copied (vp_cell (og_A g 11) (z0, .inl (oh_I h a0))) (vp_cell (og_A g 11) (z1, .inl (oh_I h a))) sp dp len = vp_cell (og_A g 11) (z1, .inl (va_cpy (oh_I h a0) (oh_I h a) sp.toNatClampNeg dp.toNatClampNeg len.toNatClampNeg)) := va_copied (fun z => .int z) (og_A g 11) (og_A g 11) (oh_I h a0) (oh_I h a) hb.2.1
  rw [ec] at X' step
  generalize hf : va_cpy (oh_I h a0) (oh_I h a) sp.toNatClampNeg dp.toNatClampNeg len.toNatClampNeg = f at X' step kk
  have hlt : og_b g + a < H.size := (Array.getElem?_eq_some_iff.mp q1).1
  have oq : ∀ q : Nat, q ≠ og_b g + a → (H.setIfInBounds (og_b g + a) (vp_cell (og_A g 11) (z1, .inl f)))[q]? = H[q]? := fun q hq => by simp [Array.getElem?_setIfInBounds, Ne.symm hq]
  have hP1 : va_P (og_D g) vwCl ((wsO g h).set j (og_b g + a, .inl (og_A g 11, z1, .inl f))) (H.setIfInBounds (og_b g + a) (vp_cell (og_A g 11) (z1, .inl f))) := hH.2.1.set (wsO_D g h) e2 (show (H.setIfInBounds (og_b g + a) _)[og_b g + a]? = some _ by simp [Array.getElem?_setIfInBounds, hlt]) oq
  have hP2 := arr_end (h' := oh_setRow h a f) (ai := 0) ha e1 ⟨by decide, by decide⟩ hH rfl (by show (if a = a then _ else _) = _; rw [if_pos rfl]) (fun b hb => setRow_o hb) hP1
  have hA : og_b g < og_b g + a := by have := ha.1.1; omega
  obtain ⟨t, b1, b2⟩ := kk p e R s m args below meth c _ _ cells slots tc ts ls C hc1 hs (hok_of hH rfl hP2 (by simp) (fun q hq => oq q (fun e => hq (by rw [e]; exact hA)))) (hS.app (fun q h => by
      obtain ⟨z, -, hz⟩ := List.mem_map.mp h
      rw [← hz]
      exact hA)) hl _ (by rw [← hT]; rfl) X'
  exact ⟨t, step t b1, b2⟩
end HR3

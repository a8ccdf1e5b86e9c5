/-! ===== new cells, arrays of references, the script, typed calls ===== -/
def oh_push (h : OH) (t z : Nat) : OH := ((h.1.1 + 1, va_up h.1.2.1 (h.1.1 + 1) t, va_up h.1.2.2 (h.1.1 + 1) z), (fun b => if b = h.1.1 + 1 then (fun _ => 0) else h.2.1 b), (fun b => if b = h.1.1 + 1 then (fun _ => 0) else h.2.2.1 b), (fun b => if b = h.1.1 + 1 then (fun _ => 0) else h.2.2.2 b))
section AL
variable {g : OG} {d mc ms : Nat} {mi mi' : MI} {pc n np : Nat} {lv : List (Nat × Value)} {st : List Value} {h : OH} {Q : OQ} {idx a ci N x : Nat} {C : String} {T : u_T} {ty : Nat → FieldType}
theorem push_o {t z b : Nat} (hb : b ≠ oh_n h + 1) : cellOf g (oh_push h t z) b = cellOf g h b := by
  have e1 : oh_t (oh_push h t z) b = oh_t h b := va_up_ne _ _ hb
  have e2 : oh_z (oh_push h t z) b = oh_z h b := va_up_ne _ _ hb
  have e3 : oh_I (oh_push h t z) b = oh_I h b := by show (if b = h.1.1 + 1 then _ else h.2.1 b) = _; rw [if_neg hb]
  have e4 : oh_L (oh_push h t z) b = oh_L h b := by show (if b = h.1.1 + 1 then _ else h.2.2.1 b) = _; rw [if_neg hb]
  have e5 : oh_R (oh_push h t z) b = oh_R h b := by show (if b = h.1.1 + 1 then _ else h.2.2.2 b) = _; rw [if_neg hb]
  have f : ∀ t', fval g (oh_push h t z) t' b = fval g h t' b := fun t' => funext fun k => by unfold fval; rw [e3, e4, e5]
  unfold cellOf
  rw [e1, e2, f, e3, e5]
theorem push_I {t z : Nat} : oh_I (oh_push h t z) (oh_n h + 1) = fun _ => 0 := by show (if h.1.1 + 1 = h.1.1 + 1 then _ else _) = _; rw [if_pos rfl]
theorem push_L {t z : Nat} : oh_L (oh_push h t z) (oh_n h + 1) = fun _ => 0 := by show (if h.1.1 + 1 = h.1.1 + 1 then _ else _) = _; rw [if_pos rfl]
theorem push_R {t z : Nat} : oh_R (oh_push h t z) (oh_n h + 1) = fun _ => 0 := by show (if h.1.1 + 1 = h.1.1 + 1 then _ else _) = _; rw [if_pos rfl]
theorem push_t {t z : Nat} : oh_t (oh_push h t z) (oh_n h + 1) = t := va_up_self _ _ _
theorem push_z {t z : Nat} : oh_z (oh_push h t z) (oh_n h + 1) = z := va_up_self _ _ _
theorem push_ws {t z : Nat} : wsO g (oh_push h t z) = wsO g h ++ [(og_b g + (oh_n h + 1), cellOf g (oh_push h t z) (oh_n h + 1))] := by
  unfold wsO
  show (List.range (h.1.1 + 1)).map _ = _
  rw [List.range_succ, List.map_append]
  congr 1
  apply List.map_congr_left
  intro i hi
  have hi2 : i < h.1.1 := List.mem_range.mp hi
  rw [push_o (by show i + 1 ≠ h.1.1 + 1; omega)]
theorem push_ok {t z : Nat} {H H1 : Heap} (hH : HOk g h H) (hz : H1.size = H.size + 1) (ho : ∀ q, q < H.size → H1[q]? = H[q]?) (hc : va_at (og_D g) vwCl (og_b g + (oh_n h + 1), cellOf g (oh_push h t z) (oh_n h + 1)) H1) : HOk g (oh_push h t z) H1 := by
  refine ⟨by rw [hz, hH.1]; show _ = og_b g + 1 + (h.1.1 + 1); show og_b g + 1 + h.1.1 + 1 = _; omega, ?_, ?_, hH.2.2.2⟩
  · rw [push_ws]
    refine (hH.2.1.kept (fun k q hq => ho _ ?_)).app (fun k q hq => ?_)
    · have h1 := wsO_inv hq
      rw [hH.1, h1.2]
      have := h1.1
      omega
    · have hz : k < 1 := (List.getElem?_eq_some_iff.mp hq).1
      rw [show k = 0 by omega] at hq
      cases hq
      exact hc
  · rw [ho _ (by rw [hH.1]; have := hH.2.2.2; omega)]
    exact hH.2.2.1
theorem r_new (hc : CLS ci C T N ty) (hg : Cond.classLink mi.1.cls idx C ∈ GW ∧ Cond.instantiable C N ∈ GW ∧ Cond.initialized C ∈ GW) (hdef : ∀ k, k < N → defaultValue (ty k) = if fk ci k = 0 then .int 0 else if fk ci k = 1 then .long 0 else .null) (hx : oh_n h + 1 = x) (hd : decode mi.2.1 pc = .ok (.new idx, 3)) (hn : pc + 3 = n)
    (kk : ORuns g d mc ms mi n lv (.ref (og_b g + x) :: st) (oh_push h ci 0) Q) : ORuns g d (1 + mc) (N + ms) mi pc lv st h Q := by
  subst hn
  subst hx
  intro p e R s m args below meth c H locs cells slots tc ts ls Cx hc1 hs hH hS hl
  have htc := Cx.2.2.2.2.2.2.2.2.2.2.2.1
  have hts2 := Cx.2.2.2.2.2.2.2.2.2.2.2.2
  have hKn := Cx.2.2.2.2.2.1.1.1 ci _ hc.1
  refine W.newcK Cx.1 Cx.2.1 Cx.2.2.2.1 (Cx.2.2.2.2.1 _ hg.1) (Cx.2.2.2.2.1 _ hg.2.1) (Cx.2.2.2.2.1 _ hg.2.2) rfl hd (by omega) (by omega) hKn.2.1 (h := og_b g + (oh_n h + 1)) (by rw [hH.1]; omega) fun H1 kC hkC e1 z1 o1 => ?_
  have hz : H1.size = H.size + 1 := by rw [z1, hH.1]; omega
  refine kk p e R s m args below meth c H1 locs _ _ tc ts ls Cx (by omega) (by omega) (push_ok hH hz (fun q hq => o1 q (by rw [hH.1] at hq; omega)) ?_) hS hl
  have hcell : cellOf g (oh_push h ci 0) (oh_n h + 1) = .inr (ci, (List.range (fN ci)).map (fval g (oh_push h ci 0) ci (oh_n h + 1))) := by
    unfold cellOf
    rw [push_t, if_pos hc.2.2.2.2.1]
  rw [hcell]
  refine ⟨_, hc.1, (u_born ty Cx.2.2.2.2.1 hc.2.1 hKn hkC e1 hc.2.2.1).to (fun j hj => ?_)⟩
  rw [hdef j hj]
  have hj2 : j < N := hj
  have e2 : vp_V ((List.range (fN ci)).map (fval g (oh_push h ci 0) ci (oh_n h + 1))) j = fval g (oh_push h ci 0) ci (oh_n h + 1) j := by
    unfold vp_V
    rw [hc.2.2.2.2.2]
    simp [hj2]
  rw [e2]
  unfold fval
  rw [push_I, push_L, push_R]
  rfl
theorem r_newarr {at' : ArrayType} {t i0 : Nat} {fty : FieldType} {z : Int32} {Z : Nat} (hat : newarray.typeOf at' = fty) (ht : 11 ≤ t ∧ t < 14) (hty : ∀ g : OG, (og_tys g)[i0]? = some (og_A g t, fty)) (hdef : defaultValue fty = .int 0) (hra : ∀ (s : State) (cA : ClassId), va_RA s cA fty → s.vm.findClass ("[" ++ fty.toString) = some cA) (hg : Cond.arrayClass fty ∈ GW) (hz : ¬ z < 0 ∧ z.toNatClampNeg = Z ∧ Z * componentBytes fty ≤ 536870912) (hx : oh_n h + 1 = x) (hd : decode mi.2.1 pc = .ok (.newarray at', 2)) (hn : pc + 2 = n)
    (kk : ORuns g d mc ms mi n lv (.ref (og_b g + x) :: st) (oh_push h t Z) Q) : ORuns g d (1 + mc) (Z + ms) mi pc lv (.int z :: st) h Q := by
  subst hn
  subst hx
  subst hat
  intro p e R s m args below meth c H locs cells slots tc ts ls Cx hc1 hs hH hS hl
  have htc := Cx.2.2.2.2.2.2.2.2.2.2.2.1
  have hts2 := Cx.2.2.2.2.2.2.2.2.2.2.2.2
  refine va_newaK Cx.1 Cx.2.1 (Cx.2.2.2.2.1 _ hg) rfl hd rfl hz.1 hz.2.1 hz.2.2 (by omega) (by omega) (h := og_b g + (oh_n h + 1)) (by rw [hH.1]; omega) fun H1 cA e1 z1 o1 hAr hNm => ?_
  have hzz : H1.size = H.size + 1 := by rw [z1, hH.1]; omega
  have hcA : cA = og_A g t := Option.some.inj (hNm.symm.trans (hra s _ (Cx.2.2.2.2.2.1.1.2 i0 _ (hty g)).2))
  refine kk p e R s m args below meth c H1 locs _ _ tc ts ls Cx (by omega) (by omega) (push_ok hH hzz (fun q hq => o1 q (by rw [hH.1] at hq; omega)) ?_) hS hl
  have hcell : cellOf g (oh_push h t Z) (oh_n h + 1) = .inl (og_A g t, Z, .inl (fun _ => 0)) := by
    unfold cellOf
    rw [push_t, push_z, push_I, if_neg (by omega), if_pos ht.2]
  rw [hcell]
  show H1[og_b g + (oh_n h + 1)]? = some (vp_cell (og_A g t) (Z, .inl (fun _ => 0)))
  rw [e1, hcA, hdef]
  rfl
theorem r_anew {t i0 : Nat} {K : String} {z : Int32} {Z : Nat} (ht : 14 ≤ t) (hty : ∀ g : OG, (og_tys g)[i0]? = some (og_A g t, .object K)) (hg : Cond.classLink mi.1.cls idx K ∈ GW) (hao : ∀ U, KOk g U → va_AO K U) (hz : ¬ z < 0 ∧ z.toNatClampNeg = Z ∧ Z * 4 ≤ 536870912) (hx : oh_n h + 1 = x) (hd : decode mi.2.1 pc = .ok (.anewarray idx, 3)) (hn : pc + 3 = n)
    (kk : ORuns g d mc ms mi n lv (.ref (og_b g + x) :: st) (oh_push h t Z) Q) : ORuns g d (1 + mc) (Z + ms) mi pc lv (.int z :: st) h Q := by
  subst hn
  subst hx
  obtain ⟨hz0, rfl, hz2⟩ := hz
  intro p e R s m args below meth c H locs cells slots tc ts ls Cx hc1 hs hH hS hl
  have htc := Cx.2.2.2.2.2.2.2.2.2.2.2.1
  have hts2 := Cx.2.2.2.2.2.2.2.2.2.2.2.2
  refine W.anew Cx.1 Cx.2.1 Cx.2.2.2.1 (Cx.2.2.2.2.1 _ hg) (va_AO.use (hao s Cx.2.2.2.2.2.1)) rfl hd rfl hz0 hz2 (by omega) (by omega) fun cA kA comp f1 f2 f3 f4 => ?_
  obtain ⟨kA', comp', -, -, -, k4⟩ := (Cx.2.2.2.2.2.1.1.2 i0 _ (hty g)).2
  have hcA : cA = og_A g t := Option.some.inj (f1.symm.trans k4)
  have hsz : H.size = og_b g + (oh_n h + 1) := by rw [hH.1]; omega
  rw [show (Value.ref H.size) = Value.ref (og_b g + (oh_n h + 1)) by rw [hsz]]
  refine kk p e R s m args below meth c _ locs _ _ tc ts ls Cx (by omega) (by omega) (push_ok hH (by simp) (fun q hq => by rw [Array.getElem?_push, if_neg (Nat.ne_of_lt hq)]) ?_) hS hl
  have hcell : cellOf g (oh_push h t z.toNatClampNeg) (oh_n h + 1) = .inl (og_A g t, z.toNatClampNeg, .inr (.inr (.inr (.inr (fun _ => none))))) := by
    unfold cellOf
    rw [push_t, push_z, push_R, if_neg (by omega), if_neg (by omega)]
    rfl
  rw [hcell]
  show (H.push _)[og_b g + (oh_n h + 1)]? = some (vp_cell (og_A g t) (z.toNatClampNeg, _))
  rw [← hsz, Array.getElem?_push_size, vp_cell_q, hcA, ← arrV_new]
  rfl
theorem setR_row {t z i v : Nat} (ha : IsArr h a t z) (ht : 14 ≤ t) : cellOf g (oh_setR h a i v) a = .inl (og_A g t, z, .inr (.inr (.inr (.inr (fun j => or_e (og_b g) (va_up (oh_R h a) i v j)))))) := by
  unfold cellOf
  rw [show oh_t (oh_setR h a i v) a = t from ha.2.1, show oh_z (oh_setR h a i v) a = z from ha.2.2, if_neg (by omega), if_neg (by omega)]
  show Sum.inl (og_A g t, z, Sum.inr (Sum.inr (Sum.inr (Sum.inr (fun j => or_e (og_b g) (set2R h.2.2.2 a i v a j)))))) = _
  rw [set2R_eq]
theorem r_aast {t i0 z v : Nat} {i : Int32} {r : vw_C} (ha : IsArr h a t z) (ht : 14 ≤ t) (hty : ∀ g : OG, (og_tys g)[i0]? = some (og_A g t, .object r.1)) (hv : IsObj h v ci) (hcl : ci < 11 ∧ vwCl[ci]? = some r) (hi : vp_in i z) (hd : decode mi.2.1 pc = .ok (.aastore, 1)) (hn : pc + 1 = n)
    (kk : ORuns g d mc ms mi n lv st (oh_setR h a i.toNatClampNeg v) Q) : ORuns g d mc ms mi pc lv (.ref (og_b g + v) :: .int i :: .ref (og_b g + a) :: st) h Q := by
  subst hn
  intro p e R s m args below meth c H locs cells slots tc ts ls Cx hc1 hs hH hS hl
  obtain ⟨j, e1, hj, e2⟩ := rar_at (g := g) ha ht
  obtain ⟨jv, e1v, hjv, e2v⟩ := obj_at (g := g) hv hcl.1
  obtain ⟨r', hr', cellV, g1, g2, g3, -⟩ := hH.2.1 jv _ e2v
  have hcls := (Cx.2.2.2.2.2.1.1.1 ci r hcl.2).2
  obtain ⟨kA, comp, k1, k2, k3, -⟩ := (Cx.2.2.2.2.2.1.1.2 i0 _ (hty g)).2
  have hcomp : comp = (og_D g).1 ci := Option.some.inj (k3.symm.trans hcls.1)
  subst hcomp
  obtain ⟨kC, hkC, -⟩ := id hcls.2
  have hlt : i.toNatClampNeg < z := Nat.not_le.mp fun q => hi (Or.inr q)
  have h0 : ¬ i < 0 := fun q => hi (Or.inl q)
  refine W.aast Cx.1 Cx.2.1 (hH.2.1 j _ e2) (fun q h => by cases h) (fun h => by cases h) k1 k2 rfl hkC ⟨h0, by show _ < (arrV _ _ _).slots.size; rw [arrV_size]; exact hlt⟩ g1 (fun q h => by rw [g3] at h; cases h) (by rw [g2]; exact hkC) (by rw [g2]; exact va_assign hcls) rfl rfl hd fun H1 e' z' oq => ?_
  have hA : og_b g < og_b g + a := by have := ha.1.1; omega
  have hP1 : va_P (og_D g) vwCl ((wsO g h).set j (og_b g + a, cellOf g (oh_setR h a i.toNatClampNeg v) a)) H1 := by
    refine hH.2.1.set (wsO_D g h) e2 ?_ oq
    rw [setR_row ha ht]
    show H1[og_b g + a]? = some (vp_cell _ _)
    rw [e', vp_cell_q, vp_cell_q, arrV_store]
    congr 2
    funext q
    by_cases hq : q = i.toNatClampNeg
    · subst hq
      have hv0 : v ≠ 0 := by have := hv.1.1; omega
      simp [updV, va_up, or_e_ref rfl hv0]
    · simp [updV, va_up, hq]
  have hP2 : va_P (og_D g) vwCl (wsO g (oh_setR h a i.toNatClampNeg v)) H1 := by
    rw [e1] at hP1 ⊢
    rw [wsO_set (g := g) (h := h) (h' := oh_setR h (j + 1) i.toNatClampNeg v) (i := j) rfl (fun b hb => setR_o hb)] at hP1
    exact hP1
  exact kk p e R s m args below meth c H1 _ cells slots tc ts ls Cx hc1 hs (hok_of hH rfl hP2 z' (fun q hq => oq q (fun e => hq (by rw [e]; exact hA)))) (hS.put hA) hl
-- the script
def scr_xs (g : OG) (L : Nat) (xs : Nat → Int32) : Prop := (og_c g).slots.size = L ∧ L < 2 ^ 31 ∧ ∀ j : Nat, j < L → (og_c g).slots[j]? = some (.int (xs j))
theorem r_slen {L : Nat} {xs : Nat → Int32} (hs' : scr_xs g L xs) (hd : decode mi.2.1 pc = .ok (.arraylength, 1)) (hn : pc + 1 = n) (kk : ORuns g d mc ms mi n lv (.int (nI L) :: st) h Q) : ORuns g d mc ms mi pc lv (.ref (og_s g) :: st) h Q := by
  subst hn
  intro p e R s m args below meth c H locs cells slots tc ts ls Cx hc1 hs hH hS hl
  have hK := Cx.2.2.2.2.2.1.2.2.2
  exact W.alen Cx.1 Cx.2.1 hH.2.2.1 hK.1 (by rw [hs'.1]; rfl) rfl rfl hd (kk p e R s m args below meth c H locs cells slots tc ts ls Cx hc1 hs hH hS hl)
theorem r_sld {L : Nat} {xs : Nat → Int32} {i : Int32} (hs' : scr_xs g L xs) (hi : vp_in i L) (hd : decode mi.2.1 pc = .ok (.iaload, 1)) (hn : pc + 1 = n) (kk : ORuns g d mc ms mi n lv (.int (xs i.toNatClampNeg) :: st) h Q) : ORuns g d mc ms mi pc lv (.int i :: .ref (og_s g) :: st) h Q := by
  subst hn
  intro p e R s m args below meth c H locs cells slots tc ts ls Cx hc1 hs hH hS hl
  have hK := Cx.2.2.2.2.2.1.2.2.2
  have hlt : i.toNatClampNeg < L := Nat.not_le.mp fun q => hi (Or.inr q)
  exact W.iald Cx.1 Cx.2.1 hH.2.2.1 hK.1 hK.2 (by rw [hs'.1]; exact hi) (hs'.2.2 _ hlt) rfl rfl hd (kk p e R s m args below meth c H locs cells slots tc ts ls Cx hc1 hs hH hS hl)
end AL
section TC
variable {g : OG} {d : Nat} {mi mi' : MI} {pc n np : Nat} {lv : List (Nat × Value)} {rest As st0 : List Value} {h : OH} {Q : OQ} {idx a ci : Nat} {q : vw_C}
theorem r_cVi (hm : VM mi' np) (hlk : Cond.methodLink mi.1.cls idx mi'.1 ∈ GW) (ha : IsObj h a ci) (hq : ci < 11 ∧ vwCl[ci]? = some q ∧ q.1 = mi'.1.cls) (hd : decode mi.2.1 pc = .ok (.invokevirtual idx, 3)) (hst : st0 = As.reverse ++ .ref (og_b g + a) :: rest) (hA : As.length = np) (hr : (rest.map fun v => v.category).sum ≤ 8) (hn : pc + 3 = n)
    (k : OCall g d 0 0 mi' (.ref (og_b g + a) :: As) h (QI (fun r h' => ORuns g (d + 1) 0 0 mi n lv (.int r :: rest) h' Q))) : ORuns g (d + 1) 0 0 mi pc lv st0 h Q := by
  subst hst
  exact r_callV (mc := 0) (ms := 0) hm hlk ha hq hA hr hd hn (ocall_mono (fun v h' ⟨r, e, k⟩ => by rw [e]; exact k) k)
theorem r_cVl (hm : VM mi' np) (hlk : Cond.methodLink mi.1.cls idx mi'.1 ∈ GW) (ha : IsObj h a ci) (hq : ci < 11 ∧ vwCl[ci]? = some q ∧ q.1 = mi'.1.cls) (hd : decode mi.2.1 pc = .ok (.invokevirtual idx, 3)) (hst : st0 = As.reverse ++ .ref (og_b g + a) :: rest) (hA : As.length = np) (hr : (rest.map fun v => v.category).sum ≤ 8) (hn : pc + 3 = n)
    (k : OCall g d 0 0 mi' (.ref (og_b g + a) :: As) h (QL (fun r h' => ORuns g (d + 1) 0 0 mi n lv (.long r :: rest) h' Q))) : ORuns g (d + 1) 0 0 mi pc lv st0 h Q := by
  subst hst
  exact r_callV (mc := 0) (ms := 0) hm hlk ha hq hA hr hd hn (ocall_mono (fun v h' ⟨r, e, k⟩ => by rw [e]; exact k) k)
theorem r_cVv (hm : VM mi' np) (hlk : Cond.methodLink mi.1.cls idx mi'.1 ∈ GW) (ha : IsObj h a ci) (hq : ci < 11 ∧ vwCl[ci]? = some q ∧ q.1 = mi'.1.cls) (hd : decode mi.2.1 pc = .ok (.invokevirtual idx, 3)) (hst : st0 = As.reverse ++ .ref (og_b g + a) :: rest) (hA : As.length = np) (hr : (rest.map fun v => v.category).sum ≤ 8) (hn : pc + 3 = n)
    (k : OCall g d 0 0 mi' (.ref (og_b g + a) :: As) h (QV (fun h' => ORuns g (d + 1) 0 0 mi n lv rest h' Q))) : ORuns g (d + 1) 0 0 mi pc lv st0 h Q := by
  subst hst
  exact r_callV (mc := 0) (ms := 0) hm hlk ha hq hA hr hd hn (ocall_mono (fun v h' ⟨e, k⟩ => by rw [e]; exact k) k)
theorem r_cSi (hm : SM mi' np) (hlk : Cond.methodLink mi.1.cls idx mi'.1 ∈ GW) (hd : decode mi.2.1 pc = .ok (.invokestatic idx, 3)) (hst : st0 = As.reverse ++ rest) (hA : As.length = np) (hr : (rest.map fun v => v.category).sum ≤ 8) (hn : pc + 3 = n)
    (k : OCall g d 0 0 mi' As h (QI (fun r h' => ORuns g (d + 1) 0 0 mi n lv (.int r :: rest) h' Q))) : ORuns g (d + 1) 0 0 mi pc lv st0 h Q := by
  subst hst
  exact r_callS (mc := 0) (ms := 0) hm hlk hA hr hd hn (ocall_mono (fun v h' ⟨r, e, k⟩ => by rw [e]; exact k) k)
theorem r_cSl (hm : SM mi' np) (hlk : Cond.methodLink mi.1.cls idx mi'.1 ∈ GW) (hd : decode mi.2.1 pc = .ok (.invokestatic idx, 3)) (hst : st0 = As.reverse ++ rest) (hA : As.length = np) (hr : (rest.map fun v => v.category).sum ≤ 8) (hn : pc + 3 = n)
    (k : OCall g d 0 0 mi' As h (QL (fun r h' => ORuns g (d + 1) 0 0 mi n lv (.long r :: rest) h' Q))) : ORuns g (d + 1) 0 0 mi pc lv st0 h Q := by
  subst hst
  exact r_callS (mc := 0) (ms := 0) hm hlk hA hr hd hn (ocall_mono (fun v h' ⟨r, e, k⟩ => by rw [e]; exact k) k)
theorem r_cSv (hm : SM mi' np) (hlk : Cond.methodLink mi.1.cls idx mi'.1 ∈ GW) (hd : decode mi.2.1 pc = .ok (.invokestatic idx, 3)) (hst : st0 = As.reverse ++ rest) (hA : As.length = np) (hr : (rest.map fun v => v.category).sum ≤ 8) (hn : pc + 3 = n)
    (k : OCall g d 0 0 mi' As h (QV (fun h' => ORuns g (d + 1) 0 0 mi n lv rest h' Q))) : ORuns g (d + 1) 0 0 mi pc lv st0 h Q := by
  subst hst
  exact r_callS (mc := 0) (ms := 0) hm hlk hA hr hd hn (ocall_mono (fun v h' ⟨e, k⟩ => by rw [e]; exact k) k)
end TC

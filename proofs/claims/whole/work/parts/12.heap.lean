/-! ===== rows of the heap ===== -/
def IsObj (h : OH) (a ci : Nat) : Prop := (1 ≤ a ∧ a ≤ oh_n h) ∧ oh_t h a = ci
def IsArr (h : OH) (a t z : Nat) : Prop := (1 ≤ a ∧ a ≤ oh_n h) ∧ oh_t h a = t ∧ oh_z h a = z
theorem obj_at {g : OG} {h : OH} {a ci : Nat} (ha : IsObj h a ci) (hc : ci < 11) : ∃ i, a = i + 1 ∧ i < oh_n h ∧ (wsO g h)[i]? = some (og_b g + a, .inr (ci, (List.range (fN ci)).map (fval g h ci a))) := by
  obtain ⟨⟨h1, h2⟩, h3⟩ := ha
  obtain ⟨i, rfl⟩ : ∃ i, a = i + 1 := ⟨a - 1, by omega⟩
  refine ⟨i, rfl, by omega, ?_⟩
  rw [wsO_at (by omega)]
  have e : cellOf g h (i + 1) = .inr (ci, (List.range (fN ci)).map (fval g h ci (i + 1))) := by
    unfold cellOf
    rw [h3, if_pos hc]
  rw [e]
theorem arr_at {g : OG} {h : OH} {a t z : Nat} (ha : IsArr h a t z) (hc : 11 ≤ t) (hc2 : t < 14) : ∃ i, a = i + 1 ∧ i < oh_n h ∧ (wsO g h)[i]? = some (og_b g + a, .inl (og_A g t, z, .inl (oh_I h a))) := by
  obtain ⟨⟨h1, h2⟩, h3, h4⟩ := ha
  obtain ⟨i, rfl⟩ : ∃ i, a = i + 1 := ⟨a - 1, by omega⟩
  refine ⟨i, rfl, by omega, ?_⟩
  rw [wsO_at (by omega)]
  have e : cellOf g h (i + 1) = .inl (og_A g t, z, .inl (oh_I h (i + 1))) := by
    unfold cellOf
    rw [h3, h4, if_neg (by omega), if_pos hc2]
  rw [e]
theorem rar_at {g : OG} {h : OH} {a t z : Nat} (ha : IsArr h a t z) (hc : 14 ≤ t) : ∃ i, a = i + 1 ∧ i < oh_n h ∧ (wsO g h)[i]? = some (og_b g + a, .inl (og_A g t, z, .inr (.inr (.inr (.inr (fun i => or_e (og_b g) (oh_R h a i))))))) := by
  obtain ⟨⟨h1, h2⟩, h3, h4⟩ := ha
  obtain ⟨i, rfl⟩ : ∃ i, a = i + 1 := ⟨a - 1, by omega⟩
  refine ⟨i, rfl, by omega, ?_⟩
  rw [wsO_at (by omega)]
  have e : cellOf g h (i + 1) = .inl (og_A g t, z, .inr (.inr (.inr (.inr (fun j => or_e (og_b g) (oh_R h (i + 1) j)))))) := by
    unfold cellOf
    rw [h3, h4, if_neg (by omega), if_neg (by omega)]
  rw [e]
/-- what is known of a class: its number, its words, its fields' types and names -/
def CLS (ci : Nat) (C : String) (T : u_T) (N : Nat) (ty : Nat → FieldType) : Prop := vwCl[ci]? = some (C, T, N) ∧ (∀ w ∈ u_ws C T N, w ∈ GW) ∧ (∀ k, k < N → parseFieldDescriptor (T k).2.2.1 = some (ty k)) ∧ (∀ a, a < N → ∀ b, b < N → a ≠ b → (T a).2.1 ≠ (T b).2.1) ∧ ci < 11 ∧ fN ci = N
theorem fval_set {g : OG} {h h' : OH} {ci a k : Nat} {v : Value} (hk : k < fN ci) (hv : fval g h' ci a k = v) (ho : ∀ j, j ≠ k → fval g h' ci a j = fval g h ci a j) : ((List.range (fN ci)).map (fval g h ci a)).set k v = (List.range (fN ci)).map (fval g h' ci a) := by
  apply List.ext_getElem?
  intro j
  rw [List.getElem?_set]
  by_cases hj : k = j
  · subst hj
    simp [hk, hv]
  · rw [if_neg hj]
    simp only [List.getElem?_map]
    cases e : (List.range (fN ci))[j]? with
    | none => rfl
    | some x =>
      have hx : x = j := by
        have hl : j < (List.range (fN ci)).length := (List.getElem?_eq_some_iff.mp e).1
        rw [List.getElem?_eq_getElem hl, List.getElem_range] at e
        exact (Option.some.inj e).symm
      subst hx
      show some (fval g h ci a x) = some (fval g h' ci a x)
      rw [ho x (fun q => hj q.symm)]
theorem cell_other {g : OG} {h h' : OH} {b : Nat} (e1 : h'.1 = h.1) (e2 : oh_I h' b = oh_I h b) (e3 : oh_L h' b = oh_L h b) (e4 : oh_R h' b = oh_R h b) : cellOf g h' b = cellOf g h b := by
  have f : ∀ t k, fval g h' t b k = fval g h t b k := fun t k => by unfold fval; rw [e2, e3, e4]
  have f2 : fval g h' (oh_t h b) b = fval g h (oh_t h b) b := funext (f _)
  have et : oh_t h' b = oh_t h b := by show h'.1.2.1 b = h.1.2.1 b; rw [e1]
  have ez : oh_z h' b = oh_z h b := by show h'.1.2.2 b = h.1.2.2 b; rw [e1]
  unfold cellOf
  rw [et, ez, f2, e2, e4]
theorem set2_ne {I : Nat → Nat → Int32} {a k b : Nat} {v : Int32} (h : b ≠ a) : set2 I a k v b = I b := by unfold set2; rw [if_neg h]
theorem set2_eq {I : Nat → Nat → Int32} {a k : Nat} {v : Int32} : set2 I a k v a = upd (I a) k v := by unfold set2; rw [if_pos rfl]
theorem set2L_ne {I : Nat → Nat → Int64} {a k b : Nat} {v : Int64} (h : b ≠ a) : set2L I a k v b = I b := by unfold set2L; rw [if_neg h]
theorem set2L_eq {I : Nat → Nat → Int64} {a k : Nat} {v : Int64} : set2L I a k v a = vp_updL (I a) k v := by unfold set2L; rw [if_pos rfl]
theorem set2R_ne {I : Nat → Nat → Nat} {a k b : Nat} {v : Nat} (h : b ≠ a) : set2R I a k v b = I b := by unfold set2R; rw [if_neg h]
theorem set2R_eq {I : Nat → Nat → Nat} {a k : Nat} {v : Nat} : set2R I a k v a = va_up (I a) k v := by unfold set2R; rw [if_pos rfl]
section HR
variable {g : OG} {d mc ms : Nat} {mi : MI} {pc n : Nat} {lv : List (Nat × Value)} {st : List Value} {h : OH} {Q : OQ}
variable {ci N idx a : Nat} {C : String} {T : u_T} {ty : Nat → FieldType}
theorem r_getV (hc : CLS ci C T N ty) (k : Nat) (hk : k < N) (ha : IsObj h a ci) (hlink : Cond.fieldLink mi.1.cls idx (T k).1 (T k).2.1 (T k).2.2.1 ∈ GW) (hd : decode mi.2.1 pc = .ok (.getfield idx, 3)) (hn : pc + 3 = n)
    (kk : ORuns g d mc ms mi n lv (fval g h ci a k :: st) h Q) : ORuns g d mc ms mi pc lv (.ref (og_b g + a) :: st) h Q := by
  subst hn
  intro p e R s m args below meth c H locs cells slots tc ts ls C hc1 hs hH hS hl
  obtain ⟨i, e1, hi, e2⟩ := obj_at (g := g) ha hc.2.2.2.2.1
  exact va_get C.1 C.2.1 C.2.2.2.2.1 hc.2.1 C.2.2.2.1 C.2.2.2.2.2.1.1 hH.2.1 i e2 hc.1 k hk (C.2.2.2.2.1 _ hlink) (fun _ q => q) (by rw [hc.2.2.2.2.2]; simp [hk]) hd (kk p e R s m args below meth c H locs cells slots tc ts ls C hc1 hs hH hS hl)
theorem r_getI (hc : CLS ci C T N ty) (k : Nat) (hk : k < N ∧ fk ci k = 0) (ha : IsObj h a ci) (hlink : Cond.fieldLink mi.1.cls idx (T k).1 (T k).2.1 (T k).2.2.1 ∈ GW) (hd : decode mi.2.1 pc = .ok (.getfield idx, 3)) (hn : pc + 3 = n)
    (kk : ORuns g d mc ms mi n lv (.int (oh_I h a k) :: st) h Q) : ORuns g d mc ms mi pc lv (.ref (og_b g + a) :: st) h Q := by
  refine r_getV hc k hk.1 ha hlink hd hn ?_
  unfold fval
  rw [if_pos hk.2]
  exact kk
theorem r_getL (hc : CLS ci C T N ty) (k : Nat) (hk : k < N ∧ fk ci k = 1) (ha : IsObj h a ci) (hlink : Cond.fieldLink mi.1.cls idx (T k).1 (T k).2.1 (T k).2.2.1 ∈ GW) (hd : decode mi.2.1 pc = .ok (.getfield idx, 3)) (hn : pc + 3 = n)
    (kk : ORuns g d mc ms mi n lv (.long (oh_L h a k) :: st) h Q) : ORuns g d mc ms mi pc lv (.ref (og_b g + a) :: st) h Q := by
  refine r_getV hc k hk.1 ha hlink hd hn ?_
  unfold fval
  rw [if_neg (by rw [hk.2]; decide), if_pos hk.2]
  exact kk
theorem or_e_ref {b r x : Nat} (h : r = x) (hx : x ≠ 0) : va_rf (or_e b r) = .ref (b + x) := by
  subst h
  unfold or_e va_rf
  rw [if_neg hx]
theorem r_getR {x : Nat} (hc : CLS ci C T N ty) (k : Nat) (hk : k < N ∧ fk ci k = 2) (ha : IsObj h a ci) (hlink : Cond.fieldLink mi.1.cls idx (T k).1 (T k).2.1 (T k).2.2.1 ∈ GW) (hd : decode mi.2.1 pc = .ok (.getfield idx, 3)) (hn : pc + 3 = n) (hx : oh_R h a k = x) (hx0 : x ≠ 0)
    (kk : ORuns g d mc ms mi n lv (.ref (og_b g + x) :: st) h Q) : ORuns g d mc ms mi pc lv (.ref (og_b g + a) :: st) h Q := by
  refine r_getV hc k hk.1 ha hlink hd hn ?_
  unfold fval
  rw [if_neg (by rw [hk.2]; decide), if_neg (by rw [hk.2]; decide), or_e_ref hx hx0]
  exact kk
/-- a private field of a nest mate -/
theorem r_getRN {x : Nat} {host : String} (hc : CLS ci C T N ty) (k : Nat) (hk : k < N ∧ fk ci k = 2) (ha : IsObj h a ci) (hlink : ∀ U, KOk g U → va_Nw (Cond.fieldLinkNest mi.1.cls idx (T k).1 (T k).2.1 (T k).2.2.1 host) U) (hd : decode mi.2.1 pc = .ok (.getfield idx, 3)) (hn : pc + 3 = n) (hx : oh_R h a k = x) (hx0 : x ≠ 0)
    (kk : ORuns g d mc ms mi n lv (.ref (og_b g + x) :: st) h Q) : ORuns g d mc ms mi pc lv (.ref (og_b g + a) :: st) h Q := by
  subst hn
  intro p e R s m args below meth c H locs cells slots tc ts ls C hc1 hs hH hS hl
  obtain ⟨i, e1, hi, e2⟩ := obj_at (g := g) ha hc.2.2.2.2.1
  refine va_getN (v := .ref (og_b g + x)) C.1 C.2.1 C.2.2.2.2.1 hc.2.1 C.2.2.2.1 C.2.2.2.2.2.1.1 hH.2.1 i e2 hc.1 k hk.1 (va_Nw.use rfl (hlink s C.2.2.2.2.2.1)) (fun _ q => q) ?_ hd (kk p e R s m args below meth c H locs cells slots tc ts ls C hc1 hs hH hS hl)
  rw [hc.2.2.2.2.2]
  simp only [List.getElem?_map, List.getElem?_range hk.1, Option.map_some]
  unfold fval
  rw [if_neg (by rw [hk.2]; decide), if_neg (by rw [hk.2]; decide), or_e_ref hx hx0]
/-- a write of a field, any kind -/
theorem r_putV {v : Value} {h' : OH} (hc : CLS ci C T N ty) (k : Nat) (hk : k < N) (ha : IsObj h a ci) (hlink : Cond.fieldLink mi.1.cls idx (T k).1 (T k).2.1 (T k).2.2.1 ∈ GW) (hd : decode mi.2.1 pc = .ok (.putfield idx, 3)) (hn : pc + 3 = n)
    (hfin : (T k).2.2.2 = false ∨ ((T k).2.2.2 = true ∧ mi.1.name = "<init>" ∧ (T k).1 = mi.1.cls)) (hnar : narrow (ty k) v = v) (hfit : fits (ty k) v = true) (hs1 : h'.1 = h.1) (hv : fval g h' ci a k = v) (ho : ∀ j, j ≠ k → fval g h' ci a j = fval g h ci a j) (hoth : ∀ b, b ≠ a → cellOf g h' b = cellOf g h b)
    (kk : ORuns g d mc ms mi n lv st h' Q) : ORuns g d mc ms mi pc lv (v :: .ref (og_b g + a) :: st) h Q := by
  subst hn
  intro p e R s m args below meth c H locs cells slots tc ts ls C hc1 hs hH hS hl
  obtain ⟨i, e1, hi, e2⟩ := obj_at (g := g) ha hc.2.2.2.2.1
  have hk' : k < fN ci := by rw [hc.2.2.2.2.2]; exact hk
  have hcell : cellOf g h' a = .inr (ci, (List.range (fN ci)).map (fval g h' ci a)) := by
    unfold cellOf
    rw [show oh_t h' a = ci by rw [show oh_t h' = oh_t h by unfold oh_t; rw [hs1]]; exact ha.2, if_pos hc.2.2.2.2.1]
  have hset : (wsO g h).set i (og_b g + a, .inr (ci, ((List.range (fN ci)).map (fval g h ci a)).set k v)) = wsO g h' := by
    rw [fval_set hk' hv ho, ← hcell, e1]
    exact wsO_set (by unfold oh_n; rw [hs1]) (fun b hb => hoth b (by rw [e1]; exact hb))
  have fin : ∀ (H1 : Heap) (locs1 : List Loc), va_P (og_D g) vwCl ((wsO g h).set i (og_b g + a, .inr (ci, ((List.range (fN ci)).map (fval g h ci a)).set k v))) H1 → H1.size = H.size → (∀ q, q ≠ og_b g + a → H1[q]? = H[q]?) → LOk g locs1 → W p (og_l g) e R s m args below meth c H1 locs1 cells slots (MQ below (QC g Q) args s tc ts (fun q => og_b g < q)) (F0 m (pc + 3) ls st) := by
    intro H1 locs1 hP1 hz ho1 hS1
    rw [hset] at hP1
    exact kk p e R s m args below meth c H1 locs1 cells slots tc ts ls C hc1 hs ⟨by rw [hz, hH.1]; unfold oh_n; rw [hs1], hP1, by rw [ho1 _ (by have := hH.2.2.2; have := ha.1.1; omega)]; exact hH.2.2.1, hH.2.2.2⟩ hS1 hl
  obtain ⟨r, h1, cell, q1, q2, q3, q4⟩ := hH.2.1 i _ e2
  have hr : r = (_, T, N) := Option.some.inj (h1.symm.trans hc.1)
  subst hr
  have hKc := C.2.2.2.2.2.1.1
  have hap := va_apart (own := mi.1.cls) C.2.2.2.2.1 hc.2.1 ty hc.2.2.1 hc.2.2.2.1 hKc hc.1
  obtain ⟨hSl, hfc, kC, hkC, hkind⟩ := hKc.1 ci _ hc.1
  obtain ⟨cf, kf, fi, f, hi2, hsl⟩ := hSl k hk
  have hlay := C.2.2.2.2.1 _ (hc.2.1 _ (u_in_lay hk))
  have hst := (u_facts hfc hkC (u_lays C.2.2.2.2.1 hc.2.1 hk) hi2).1
  have hlen : k < ((List.range (fN ci)).map (fval g h ci a)).length := by simp [hk']
  rcases hfin with hf0 | ⟨hf1, hf2, hf3⟩
  · unfold u_lay at hlay
    rw [if_neg (by rw [hf0]; decide)] at hlay
    have h6 := u_store hfc hkC hkind hlay hi2 (hc.2.2.1 k hk) hnar hfit
    refine W.putK C.1 C.2.1 (f := f) ⟨C.2.2.2.1, C.2.2.2.2.1 _ hlink, ⟨_, _, _, hi2⟩, hst⟩ (by rw [q2]; exact h6) q1 q3 (by rw [hsl]; exact k2_hasslot (q4 k hk)) rfl rfl hd fun H' z1 z2 z3 => ?_
    rw [hsl] at z1 ⊢
    exact fin H' _ (hH.2.1.set (wsO_D g h) e2 ⟨_, hc.1, t_OB.to (V := updV (vp_V _) k v) ⟨_, z1, q2, q3, t_set q4 hap hk v⟩ (fun j _ => vp_updV_set hlen v j)⟩ z3) z2 z3 (hS.put (by have := ha.1.1; show og_b g < og_b g + a; omega))
  · unfold u_lay at hlay
    rw [if_pos hf1] at hlay
    have hcf : m.cls = cf := by
      obtain ⟨_, _, c', _, _, _, -, -, hf', -, -, -, hown2, -⟩ := Cond.laysFinal_spec hlay
      have e1 : c' = cf := by have := hi2.symm.trans hf'; simp at this; exact this.1.symm
      rw [hf3] at hown2
      rw [← e1]; exact Option.some.inj (C.2.2.2.1.symm.trans hown2)
    have h6 := u_fits hfc hkC hkind (Or.inr hlay) hi2 (hc.2.2.1 k hk) hnar hfit
    refine W.putFinK C.1 C.2.1 C.2.2.2.1 (C.2.2.2.2.1 _ hlink) hi2 hst hcf (C.2.2.2.2.2.2.2.2.1.trans hf2) (by rw [q2]; exact h6) q1 q3 (by rw [hsl]; exact k2_hasslot (q4 k hk)) rfl rfl hd fun H' z1 z2 z3 => ?_
    rw [hsl] at z1 ⊢
    exact fin H' _ (hH.2.1.set (wsO_D g h) e2 ⟨_, hc.1, t_OB.to (V := updV (vp_V _) k v) ⟨_, z1, q2, q3, t_set q4 hap hk v⟩ (fun j _ => vp_updV_set hlen v j)⟩ z3) z2 z3 (hS.put (by have := ha.1.1; show og_b g < og_b g + a; omega))
end HR

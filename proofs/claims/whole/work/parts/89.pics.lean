/-! ===== the pictures while the objects are made: n cells, and the places L that still wait for what they will hold ===== -/
def IFt (a k : Nat) : Int32 := if (a ∈ rowL ∨ a ∈ textL) ∧ k = 1 then -1 else if a = 72 ∧ k = 6 then -1 else if (a = 131 ∧ k < 6) ∨ (a = 134 ∧ k < 4) then -1 else 0
def LFt (a k : Nat) : Int64 := if (a = 1 ∧ k = 16) ∨ (a = 111 ∧ k = 5) ∨ (a = 129 ∧ k = 4) then 1 else 0
def RFt (a k : Nat) : Nat := R0 a k
def nzb (a k : Nat) : Bool := !(IFt a k == 0) || !(LFt a k == 0) || !(RFt a k == 0)
def pnd (a : Nat) : List (Nat × Nat) := ((List.range 40).filter (nzb a)).map (fun k => (a, k))
def remL (L : List (Nat × Nat)) (b k : Nat) : List (Nat × Nat) := L.filter (fun u => !(u.1 == b && u.2 == k))
def PS (n : Nat) (L : List (Nat × Nat)) : OH := ((n, fun a => tgT.getD a 99, fun a => lnT.getD a 0), (fun b k => if b ≤ n ∧ ¬ (b, k) ∈ L then IFt b k else 0), (fun b k => if b ≤ n ∧ ¬ (b, k) ∈ L then LFt b k else 0), (fun b k => if b ≤ n ∧ ¬ (b, k) ∈ L then RFt b k else 0))
theorem getD_hi {A : Type} (l : List A) (i : Nat) (d : A) (h : l.length ≤ i) : l.getD i d = d := by
  show (l[i]?).getD d = d
  rw [List.getElem?_eq_none h]
  rfl
theorem getD_mem {A : Type} (l : List A) (i : Nat) (d : A) (h : i < l.length) : l.getD i d ∈ l := by
  show (l[i]?).getD d ∈ l
  rw [List.getElem?_eq_getElem h]
  exact List.getElem_mem h
theorem rT_len : ∀ r ∈ rT, r.length ≤ 40 := by decide +kernel
theorem R0_hi {a k : Nat} (h : 40 ≤ k) : R0 a k = 0 := by
  unfold R0
  have : (rT.getD a []).length ≤ 40 := by
    by_cases ha : a < rT.length
    · exact rT_len _ (getD_mem _ _ _ ha)
    · rw [getD_hi _ _ _ (by omega)]
      exact Nat.zero_le _
  rw [getD_hi _ _ _ (by omega)]
theorem nz_hi {a k : Nat} (h : 40 ≤ k) : IFt a k = 0 ∧ LFt a k = 0 ∧ RFt a k = 0 := by
  refine ⟨?_, ?_, R0_hi h⟩
  · unfold IFt
    rw [if_neg (by omega), if_neg (by omega), if_neg (by omega)]
  · unfold LFt
    rw [if_neg (by omega)]
theorem pnd_not {a k : Nat} (h : ¬ (a, k) ∈ pnd a) : IFt a k = 0 ∧ LFt a k = 0 ∧ RFt a k = 0 := by
  by_cases hk : 40 ≤ k
  · exact nz_hi hk
  · have hb : nzb a k = false := by
      refine Bool.eq_false_iff.mpr (fun e => h ?_)
      exact List.mem_map.mpr ⟨k, List.mem_filter.mpr ⟨List.mem_range.mpr (by omega), e⟩, rfl⟩
    unfold nzb at hb
    simp at hb
    exact ⟨hb.1.1, hb.1.2, hb.2⟩
theorem pnd_fst {a : Nat} {u : Nat × Nat} (h : u ∈ pnd a) : u.1 = a := by
  obtain ⟨k, -, e⟩ := List.mem_map.mp h
  rw [← e]
theorem rem_mem {L : List (Nat × Nat)} {b k : Nat} {u : Nat × Nat} : u ∈ remL L b k ↔ u ∈ L ∧ ¬ (u.1 = b ∧ u.2 = k) := by
  unfold remL
  rw [List.mem_filter]
  by_cases h1 : u.1 = b <;> by_cases h2 : u.2 = k <;> simp [h1, h2]
theorem msk_push {T : Type} {V : Nat → Nat → T} {z : T} {n : Nat} {L : List (Nat × Nat)} (h : ∀ k, ¬ (n + 1, k) ∈ pnd (n + 1) → V (n + 1) k = z) : (fun b => if b = n + 1 then (fun _ => z) else (fun k => if b ≤ n ∧ ¬ (b, k) ∈ L then V b k else z)) = (fun b k => if b ≤ n + 1 ∧ ¬ (b, k) ∈ pnd (n + 1) ++ L then V b k else z) := by
  funext b k
  by_cases e : b = n + 1
  · subst e
    rw [if_pos rfl]
    split
    · rename_i c
      exact (h k (fun q => c.2 (List.mem_append_left _ q))).symm
    · rfl
  · rw [if_neg e]
    have : (b ≤ n ∧ ¬ (b, k) ∈ L) ↔ (b ≤ n + 1 ∧ ¬ (b, k) ∈ pnd (n + 1) ++ L) := by
      rw [List.mem_append]
      constructor
      · rintro ⟨c1, c2⟩
        exact ⟨by omega, fun q => q.elim (fun q => e (pnd_fst q)) c2⟩
      · rintro ⟨c1, c2⟩
        exact ⟨by omega, fun q => c2 (Or.inr q)⟩
    by_cases c : b ≤ n ∧ ¬ (b, k) ∈ L
    · rw [if_pos (this.mp c)]
      exact if_pos c
    · rw [if_neg (fun q => c (this.mpr q))]
      exact if_neg c
theorem va_up_same {A : Type} (f : Nat → A) (i : Nat) : va_up f i (f i) = f := by
  funext j
  unfold va_up
  split
  · rename_i h; rw [h]
  · rfl
theorem push_PS {n t z : Nat} {L L' : List (Nat × Nat)} (ht : tgT.getD (n + 1) 99 = t) (hz : lnT.getD (n + 1) 0 = z) (hL : pnd (n + 1) ++ L = L') : oh_push (PS n L) t z = PS (n + 1) L' := by
  subst hL; subst ht; subst hz
  unfold oh_push PS
  refine Prod.ext ?_ (Prod.ext ?_ (Prod.ext ?_ ?_))
  · show (n + 1, va_up (fun a => tgT.getD a 99) (n + 1) _, va_up (fun a => lnT.getD a 0) (n + 1) _) = _
    rw [va_up_same (fun a => tgT.getD a 99) (n + 1), va_up_same (fun a => lnT.getD a 0) (n + 1)]
  · exact msk_push (V := IFt) (fun k q => (pnd_not q).1)
  · exact msk_push (V := LFt) (fun k q => (pnd_not q).2.1)
  · exact msk_push (V := RFt) (fun k q => (pnd_not q).2.2)
theorem msk_at {T : Type} {V : Nat → Nat → T} {z v : T} {n b k : Nat} {L : List (Nat × Nat)} (hb : b ≤ n) (hv : V b k = v) (c j : Nat) : (if c = b ∧ j = k then v else if c ≤ n ∧ ¬ (c, j) ∈ L then V c j else z) = if c ≤ n ∧ ¬ (c, j) ∈ remL L b k then V c j else z := by
  by_cases e : c = b ∧ j = k
  · obtain ⟨rfl, rfl⟩ := e
    rw [if_pos ⟨rfl, rfl⟩, if_pos ⟨hb, fun q => (rem_mem.mp q).2 ⟨rfl, rfl⟩⟩, hv]
  · rw [if_neg e]
    by_cases q : c ≤ n ∧ ¬ (c, j) ∈ L
    · rw [if_pos q, if_pos ⟨q.1, fun y => q.2 (rem_mem.mp y).1⟩]
    · rw [if_neg q, if_neg (fun y => q ⟨y.1, fun x => y.2 (rem_mem.mpr ⟨x, e⟩)⟩)]
theorem msk_z {T : Type} {V : Nat → Nat → T} {z : T} {n b k : Nat} {L : List (Nat × Nat)} (hb : b ≤ n) (hv : V b k = z) : (fun c j => if c ≤ n ∧ ¬ (c, j) ∈ L then V c j else z) = (fun c j => if c ≤ n ∧ ¬ (c, j) ∈ remL L b k then V c j else z) := by
  funext c j
  rw [← msk_at hb hv c j]
  by_cases e : c = b ∧ j = k
  · obtain ⟨rfl, rfl⟩ := e
    rw [if_pos (c := c = c ∧ j = j) ⟨rfl, rfl⟩]
    split
    · exact hv
    · rfl
  · rw [if_neg e]
theorem set2R_at (L : Nat → Nat → Nat) (a j v b k : Nat) : set2R L a j v b k = if b = a ∧ k = j then v else L b k := by
  unfold set2R
  by_cases h : b = a
  · subst h
    rw [if_pos rfl]
    unfold va_up
    by_cases hk : k = j
    · simp [hk]
    · simp [hk]
  · rw [if_neg h, if_neg (fun q => h q.1)]
theorem setI_PS {n b k : Nat} {v : Int32} {L L' : List (Nat × Nat)} (h : b ≤ n ∧ IFt b k = v ∧ LFt b k = 0 ∧ RFt b k = 0) (hL : remL L b k = L') : oh_setI (PS n L) b k v = PS n L' := by
  subst hL
  obtain ⟨hb, h1, h2, h3⟩ := h
  unfold oh_setI PS
  refine Prod.ext rfl (Prod.ext ?_ (Prod.ext (msk_z hb h2) (msk_z hb h3)))
  funext c j
  show set2 _ b k v c j = _
  rw [set2_at]
  exact msk_at hb h1 c j
theorem setL_PS {n b k : Nat} {v : Int64} {L L' : List (Nat × Nat)} (h : b ≤ n ∧ IFt b k = 0 ∧ LFt b k = v ∧ RFt b k = 0) (hL : remL L b k = L') : oh_setL (PS n L) b k v = PS n L' := by
  subst hL
  obtain ⟨hb, h1, h2, h3⟩ := h
  unfold oh_setL PS
  refine Prod.ext rfl (Prod.ext (msk_z hb h1) (Prod.ext ?_ (msk_z hb h3)))
  funext c j
  show set2L _ b k v c j = _
  rw [set2L_at]
  exact msk_at hb h2 c j
theorem setR_PS {n b k v : Nat} {L L' : List (Nat × Nat)} (h : b ≤ n ∧ IFt b k = 0 ∧ LFt b k = 0 ∧ RFt b k = v) (hL : remL L b k = L') : oh_setR (PS n L) b k v = PS n L' := by
  subst hL
  obtain ⟨hb, h1, h2, h3⟩ := h
  unfold oh_setR PS
  refine Prod.ext rfl (Prod.ext (msk_z hb h1) (Prod.ext (msk_z hb h2) ?_))
  funext c j
  show set2R _ b k v c j = _
  rw [set2R_at]
  exact msk_at hb h3 c j
theorem tg_hi : ∀ a ∈ rowL ++ textL, a ≤ 150 := by decide
theorem fin_hi {b k : Nat} (h : 150 < b) : IFt b k = 0 ∧ LFt b k = 0 ∧ RFt b k = 0 := by
  refine ⟨?_, ?_, ?_⟩
  · unfold IFt
    rw [if_neg (fun q => by have := tg_hi b (List.mem_append.mpr q.1); omega), if_neg (by omega), if_neg (by omega)]
  · unfold LFt
    rw [if_neg (by omega)]
  · unfold RFt R0
    rw [getD_hi rT b [] (by show 151 ≤ b; omega)]
    rfl
theorem msk_end {T : Type} {V : Nat → Nat → T} {z : T} (h : ∀ b k, 150 < b → V b k = z) : (fun b k => if b ≤ 150 ∧ ¬ (b, k) ∈ ([] : List (Nat × Nat)) then V b k else z) = V := by
  funext b k
  by_cases c : b ≤ 150
  · rw [if_pos ⟨c, List.not_mem_nil⟩]
  · rw [if_neg (fun q => c q.1), h b k (by omega)]
theorem PS_end : PS 150 [] = stH IFt (LFt, 0, 0) := by
  unfold PS stH
  refine Prod.ext rfl (Prod.ext (msk_end (fun b k h => (fin_hi h).1)) (Prod.ext (msk_end (fun b k h => (fin_hi h).2.1)) ?_))
  show (fun b k => if b ≤ 150 ∧ ¬ (b, k) ∈ ([] : List (Nat × Nat)) then RFt b k else 0) = Rof 0 0
  rw [msk_end (fun b k h => (fin_hi h).2.2)]
  funext b k
  unfold RFt Rof va_up
  by_cases h1 : b = 91
  · subst h1
    rw [if_pos rfl]
    by_cases h2 : k = 2
    · subst h2; rfl
    · rw [if_neg h2]
  · rw [if_neg h1]
    by_cases h3 : b = 111
    · subst h3
      rw [if_pos rfl]
      by_cases h2 : k = 1
      · subst h2; rfl
      · rw [if_neg h2]
    · rw [if_neg h3]
section PW
variable {g : OG} {d mc ms : Nat} {mi : MI} {pc n : Nat} {lv : List (Nat × Value)} {st : List Value} {Q : OQ} {idx a ci N x : Nat} {C : String} {T : u_T} {ty : Nat → FieldType} {m : Nat} {L L' : List (Nat × Nat)}
theorem ps_obj (h : (1 ≤ a ∧ a ≤ m) ∧ tgT.getD a 99 = ci) : IsObj (PS m L) a ci := h
theorem ps_arr {t z : Nat} (h : (1 ≤ a ∧ a ≤ m) ∧ tgT.getD a 99 = t ∧ lnT.getD a 0 = z) : IsArr (PS m L) a t z := h
theorem p_new (ht : tgT.getD (m + 1) 99 = ci ∧ lnT.getD (m + 1) 0 = 0) (hL : pnd (m + 1) ++ L = L') (hc : CLS ci C T N ty) (hg : Cond.classLink mi.1.cls idx C ∈ GW ∧ Cond.instantiable C N ∈ GW ∧ Cond.initialized C ∈ GW) (hdef : ∀ k, k < N → defaultValue (ty k) = if fk ci k = 0 then .int 0 else if fk ci k = 1 then .long 0 else .null) (hd : decode mi.2.1 pc = .ok (.new idx, 3)) (hn : pc + 3 = n)
    (kk : ORuns g d mc ms mi n lv (.ref (og_b g + (m + 1)) :: st) (PS (m + 1) L') Q) : ORuns g d (1 + mc) (N + ms) mi pc lv st (PS m L) Q :=
  r_new hc hg hdef rfl hd hn (by rw [push_PS ht.1 ht.2 hL]; exact kk)
theorem p_newarr {at' : ArrayType} {t i0 : Nat} {fty : FieldType} {z : Int32} {Z : Nat} (htz : tgT.getD (m + 1) 99 = t ∧ lnT.getD (m + 1) 0 = Z) (hL : pnd (m + 1) ++ L = L') (hat : newarray.typeOf at' = fty) (ht : 11 ≤ t ∧ t < 14) (hty : ∀ g : OG, (og_tys g)[i0]? = some (og_A g t, fty)) (hdef : defaultValue fty = .int 0) (hra : ∀ (s : State) (cA : ClassId), va_RA s cA fty → s.vm.findClass ("[" ++ fty.toString) = some cA) (hg : Cond.arrayClass fty ∈ GW) (hz : ¬ z < 0 ∧ z.toNatClampNeg = Z ∧ Z * componentBytes fty ≤ 536870912) (hd : decode mi.2.1 pc = .ok (.newarray at', 2)) (hn : pc + 2 = n)
    (kk : ORuns g d mc ms mi n lv (.ref (og_b g + (m + 1)) :: st) (PS (m + 1) L') Q) : ORuns g d (1 + mc) (Z + ms) mi pc lv (.int z :: st) (PS m L) Q :=
  r_newarr hat ht hty hdef hra hg hz rfl hd hn (by rw [push_PS htz.1 htz.2 hL]; exact kk)
theorem p_anew {t i0 : Nat} {K : String} {z : Int32} {Z : Nat} (htz : tgT.getD (m + 1) 99 = t ∧ lnT.getD (m + 1) 0 = Z) (hL : pnd (m + 1) ++ L = L') (ht : 14 ≤ t) (hty : ∀ g : OG, (og_tys g)[i0]? = some (og_A g t, .object K)) (hg : Cond.classLink mi.1.cls idx K ∈ GW) (hao : ∀ U, KOk g U → va_AO K U) (hz : ¬ z < 0 ∧ z.toNatClampNeg = Z ∧ Z * 4 ≤ 536870912) (hd : decode mi.2.1 pc = .ok (.anewarray idx, 3)) (hn : pc + 3 = n)
    (kk : ORuns g d mc ms mi n lv (.ref (og_b g + (m + 1)) :: st) (PS (m + 1) L') Q) : ORuns g d (1 + mc) (Z + ms) mi pc lv (.int z :: st) (PS m L) Q :=
  r_anew ht hty hg hao hz rfl hd hn (by rw [push_PS htz.1 htz.2 hL]; exact kk)
theorem p_aast {t i0 z v j : Nat} {i : Int32} {r : vw_C} (hs : a ≤ m ∧ IFt a j = 0 ∧ LFt a j = 0 ∧ RFt a j = v) (hL : remL L a j = L') (hij : i.toNatClampNeg = j) (ha : IsArr (PS m L) a t z) (ht : 14 ≤ t) (hty : ∀ g : OG, (og_tys g)[i0]? = some (og_A g t, .object r.1)) (hv : IsObj (PS m L) v ci) (hcl : ci < 11 ∧ vwCl[ci]? = some r) (hi : vp_in i z) (hd : decode mi.2.1 pc = .ok (.aastore, 1)) (hn : pc + 1 = n)
    (kk : ORuns g d mc ms mi n lv st (PS m L') Q) : ORuns g d mc ms mi pc lv (.ref (og_b g + v) :: .int i :: .ref (og_b g + a) :: st) (PS m L) Q :=
  r_aast ha ht hty hv hcl hi hd hn (by rw [hij, setR_PS hs hL]; exact kk)
theorem p_iast {z j : Nat} {i v : Int32} (hs : a ≤ m ∧ IFt a j = v ∧ LFt a j = 0 ∧ RFt a j = 0) (hL : remL L a j = L') (hij : i.toNatClampNeg = j) (ha : IsArr (PS m L) a 11 z) (hi : vp_in i z) (hd : decode mi.2.1 pc = .ok (.iastore, 1)) (hn : pc + 1 = n)
    (kk : ORuns g d mc ms mi n lv st (PS m L') Q) : ORuns g d mc ms mi pc lv (.int v :: .int i :: .ref (og_b g + a) :: st) (PS m L) Q :=
  r_iast ha hi hd hn (by rw [hij, setI_PS hs hL]; exact kk)
theorem p_putI {v : Int32} (k : Nat) (hs : a ≤ m ∧ IFt a k = v ∧ LFt a k = 0 ∧ RFt a k = 0) (hL : remL L a k = L') (hc : CLS ci C T N ty) (hk : k < N ∧ fk ci k = 0 ∧ ty k = .int ∧ (T k).2.2.2 = false) (ha : IsObj (PS m L) a ci) (hlink : Cond.fieldLink mi.1.cls idx (T k).1 (T k).2.1 (T k).2.2.1 ∈ GW) (hd : decode mi.2.1 pc = .ok (.putfield idx, 3)) (hn : pc + 3 = n)
    (kk : ORuns g d mc ms mi n lv st (PS m L') Q) : ORuns g d mc ms mi pc lv (.int v :: .ref (og_b g + a) :: st) (PS m L) Q :=
  r_putI hc k hk ha hlink hd hn (by rw [setI_PS hs hL]; exact kk)
theorem p_putZ {v : Int32} (k : Nat) (hv : v = 0 ∨ v = 1) (hs : a ≤ m ∧ IFt a k = v ∧ LFt a k = 0 ∧ RFt a k = 0) (hL : remL L a k = L') (hc : CLS ci C T N ty) (hk : k < N ∧ fk ci k = 0 ∧ ty k = .boolean ∧ (T k).2.2.2 = false) (ha : IsObj (PS m L) a ci) (hlink : Cond.fieldLink mi.1.cls idx (T k).1 (T k).2.1 (T k).2.2.1 ∈ GW) (hd : decode mi.2.1 pc = .ok (.putfield idx, 3)) (hn : pc + 3 = n)
    (kk : ORuns g d mc ms mi n lv st (PS m L') Q) : ORuns g d mc ms mi pc lv (.int v :: .ref (og_b g + a) :: st) (PS m L) Q :=
  r_putZ hv hc k hk ha hlink hd hn (by rw [setI_PS hs hL]; exact kk)
theorem p_putL {v : Int64} (k : Nat) (hs : a ≤ m ∧ IFt a k = 0 ∧ LFt a k = v ∧ RFt a k = 0) (hL : remL L a k = L') (hc : CLS ci C T N ty) (hk : k < N ∧ fk ci k = 1 ∧ ty k = .long ∧ (T k).2.2.2 = false) (ha : IsObj (PS m L) a ci) (hlink : Cond.fieldLink mi.1.cls idx (T k).1 (T k).2.1 (T k).2.2.1 ∈ GW) (hd : decode mi.2.1 pc = .ok (.putfield idx, 3)) (hn : pc + 3 = n)
    (kk : ORuns g d mc ms mi n lv st (PS m L') Q) : ORuns g d mc ms mi pc lv (.long v :: .ref (og_b g + a) :: st) (PS m L) Q :=
  r_putL hc k hk ha hlink hd hn (by rw [setL_PS hs hL]; exact kk)
theorem p_putR {v : Nat} (k : Nat) (hv : v ≠ 0) (hs : a ≤ m ∧ IFt a k = 0 ∧ LFt a k = 0 ∧ RFt a k = v) (hL : remL L a k = L') (hc : CLS ci C T N ty) (hk : k < N ∧ fk ci k = 2) (hfin : (T k).2.2.2 = false ∨ ((T k).2.2.2 = true ∧ mi.1.name = "<init>" ∧ (T k).1 = mi.1.cls)) (hty : ∀ x, narrow (ty k) (.ref x) = .ref x ∧ fits (ty k) (.ref x) = true) (ha : IsObj (PS m L) a ci) (hlink : Cond.fieldLink mi.1.cls idx (T k).1 (T k).2.1 (T k).2.2.1 ∈ GW) (hd : decode mi.2.1 pc = .ok (.putfield idx, 3)) (hn : pc + 3 = n)
    (kk : ORuns g d mc ms mi n lv st (PS m L') Q) : ORuns g d mc ms mi pc lv (.ref (og_b g + v) :: .ref (og_b g + a) :: st) (PS m L) Q :=
  r_putR hv hc k hk hfin hty ha hlink hd hn (by rw [setR_PS hs hL]; exact kk)
theorem p_putNull (k : Nat) (hs : a ≤ m ∧ IFt a k = 0 ∧ LFt a k = 0 ∧ RFt a k = 0) (hL : remL L a k = L') (hc : CLS ci C T N ty) (hk : k < N ∧ fk ci k = 2) (hfin : (T k).2.2.2 = false) (hty : narrow (ty k) .null = .null ∧ fits (ty k) .null = true) (ha : IsObj (PS m L) a ci) (hlink : Cond.fieldLink mi.1.cls idx (T k).1 (T k).2.1 (T k).2.2.1 ∈ GW) (hd : decode mi.2.1 pc = .ok (.putfield idx, 3)) (hn : pc + 3 = n)
    (kk : ORuns g d mc ms mi n lv st (PS m L') Q) : ORuns g d mc ms mi pc lv (.null :: .ref (og_b g + a) :: st) (PS m L) Q :=
  r_putNull hc k hk hfin hty ha hlink hd hn (by rw [setR_PS hs hL]; exact kk)
theorem p_getR {x : Nat} (k : Nat) (hx : (a ≤ m ∧ ¬ (a, k) ∈ L) ∧ RFt a k = x) (hx0 : x ≠ 0) (hc : CLS ci C T N ty) (hk : k < N ∧ fk ci k = 2) (ha : IsObj (PS m L) a ci) (hlink : Cond.fieldLink mi.1.cls idx (T k).1 (T k).2.1 (T k).2.2.1 ∈ GW) (hd : decode mi.2.1 pc = .ok (.getfield idx, 3)) (hn : pc + 3 = n)
    (kk : ORuns g d mc ms mi n lv (.ref (og_b g + x) :: st) (PS m L) Q) : ORuns g d mc ms mi pc lv (.ref (og_b g + a) :: st) (PS m L) Q :=
  r_getR hc k hk ha hlink hd hn (by show (if a ≤ m ∧ ¬ (a, k) ∈ L then RFt a k else 0) = x; rw [if_pos hx.1, hx.2]) hx0 kk
end PW

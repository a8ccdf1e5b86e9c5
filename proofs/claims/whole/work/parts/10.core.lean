/-! ===== THE CORE: one judgement (ORuns) over the kit's W, with a typed picture of all cells ===== -/
def GW : List Cond := lw_tbl.filter goodWord
theorem gw_in {w : Cond} (i : Nat) (hm : lw_tbl[i]? = some w) (hg : goodWord w = true) : w ∈ GW := List.mem_filter.mpr ⟨List.mem_of_getElem? hm, hg⟩
theorem gw_good : GoodIn GW GW := fun w h => ⟨h, good_of_word (List.mem_filter.mp h).2⟩
/-- a method: name, code, locals, return type -/
abbrev MI : Type := MethodName × ByteArray × Nat × Option FieldType
def miCode (mi : MI) : Cond := Cond.code mi.1 mi.2.1 mi.2.2.1 mi.2.2.2
def wsM (mi : MI) : List Cond := miCode mi :: GW
theorem gw_wsM {mi : MI} (h : miCode mi ∈ GW) : GoodIn GW (wsM mi) := fun w hw => by
  rcases List.mem_cons.mp hw with e | e
  · rw [e]; exact gw_good _ h
  · exact gw_good _ e
/-- the launch, the base of our cells (cell a lies at base + a), the classes, the array classes, the script -/
abbrev OG : Type := Launch × Nat × va_G × (Nat → ClassId) × Nat × Cell
abbrev og_l (g : OG) : Launch := g.1
abbrev og_b (g : OG) : Nat := g.2.1
abbrev og_D (g : OG) : va_G := g.2.2.1
abbrev og_A (g : OG) : Nat → ClassId := g.2.2.2.1
abbrev og_s (g : OG) : Nat := g.2.2.2.2.1
abbrev og_c (g : OG) : Cell := g.2.2.2.2.2
def og_tys (g : OG) : List (ClassId × FieldType) := [(og_A g 11, .int), (og_A g 12, .byte), (og_A g 13, .boolean), (og_A g 14, .object "OneMatch$Row"), (og_A g 15, .object "OneMatch$Text"), (og_A g 16, .object "OneMatch$Campaign"), (og_A g 17, .object "OneMatch$Fire")]
/-- the cells: how many, what kind, how long; their ints, longs, references (0: null) -/
abbrev OH : Type := (Nat × (Nat → Nat) × (Nat → Nat)) × (Nat → Nat → Int32) × (Nat → Nat → Int64) × (Nat → Nat → Nat)
abbrev oh_n (h : OH) : Nat := h.1.1
abbrev oh_t (h : OH) : Nat → Nat := h.1.2.1
abbrev oh_z (h : OH) : Nat → Nat := h.1.2.2
abbrev oh_I (h : OH) : Nat → Nat → Int32 := h.2.1
abbrev oh_L (h : OH) : Nat → Nat → Int64 := h.2.2.1
abbrev oh_R (h : OH) : Nat → Nat → Nat := h.2.2.2
def set2 (I : Nat → Nat → Int32) (a k : Nat) (v : Int32) : Nat → Nat → Int32 := fun b => if b = a then upd (I a) k v else I b
def set2L (L : Nat → Nat → Int64) (a k : Nat) (v : Int64) : Nat → Nat → Int64 := fun b => if b = a then vp_updL (L a) k v else L b
def set2R (R : Nat → Nat → Nat) (a k v : Nat) : Nat → Nat → Nat := fun b => if b = a then va_up (R a) k v else R b
def oh_setI (h : OH) (a k : Nat) (v : Int32) : OH := (h.1, set2 h.2.1 a k v, h.2.2.1, h.2.2.2)
def oh_setL (h : OH) (a k : Nat) (v : Int64) : OH := (h.1, h.2.1, set2L h.2.2.1 a k v, h.2.2.2)
def oh_setR (h : OH) (a k v : Nat) : OH := (h.1, h.2.1, h.2.2.1, set2R h.2.2.2 a k v)
def oh_setRow (h : OH) (a : Nat) (f : Nat → Int32) : OH := (h.1, (fun b => if b = a then f else h.2.1 b), h.2.2.1, h.2.2.2)
def or_e (b r : Nat) : Option Nat := if r = 0 then none else some (b + r)
/-- the kinds of the fields: 0 an int (byte, boolean), 1 a long, 2 a reference -/
def fkT : List (List Nat) := [[2,2,2,0,0],[2,2,2,0,0,0,0],[2,2,2,0,0],[2,2,0,0,1,1],[2,2,2,0,0,0,0,0,0,0],[],[2,0],[2,2,2,0,0],[2,0],[2,2,2,2,2,2,2,2,2,2,2,2,2,0,0,1,1],[0,2,0,1,1,2,2,2,2,2,0,0,2,2,2,0,0,0,2,2,2,2,0,2,2,2,2,2,2,2,2,0,0,0,0,0,0,1]]
def fk (t k : Nat) : Nat := (fkT.getD t []).getD k 0
def fNT : List Nat := [5,7,5,6,10,0,2,5,2,17,38]
def fN (t : Nat) : Nat := fNT.getD t 0
def fval (g : OG) (h : OH) (t a k : Nat) : Value := if fk t k = 0 then .int (oh_I h a k) else if fk t k = 1 then .long (oh_L h a k) else va_rf (or_e (og_b g) (oh_R h a k))
def cellOf (g : OG) (h : OH) (a : Nat) : va_E :=
  if oh_t h a < 11 then .inr (oh_t h a, (List.range (fN (oh_t h a))).map (fval g h (oh_t h a) a))
  else if oh_t h a < 14 then .inl (og_A g (oh_t h a), oh_z h a, .inl (oh_I h a))
  else .inl (og_A g (oh_t h a), oh_z h a, .inr (.inr (.inr (.inr (fun i => or_e (og_b g) (oh_R h a i))))))
def wsO (g : OG) (h : OH) : va_W := (List.range (oh_n h)).map (fun i => (og_b g + (i + 1), cellOf g h (i + 1)))
theorem wsO_at {g : OG} {h : OH} {i : Nat} (hi : i < oh_n h) : (wsO g h)[i]? = some (og_b g + (i + 1), cellOf g h (i + 1)) := by
  simp [wsO, hi]
theorem wsO_len (g : OG) (h : OH) : (wsO g h).length = oh_n h := by simp [wsO]
theorem wsO_inv {g : OG} {h : OH} {i : Nat} {q : Nat × va_E} (e : (wsO g h)[i]? = some q) : i < oh_n h ∧ q.1 = og_b g + (i + 1) := by
  have hl : i < (wsO g h).length := (List.getElem?_eq_some_iff.mp e).1
  rw [wsO_len] at hl
  rw [wsO_at hl] at e
  cases e
  exact ⟨hl, rfl⟩
theorem wsO_set {g : OG} {h h' : OH} {i : Nat} (hn : oh_n h' = oh_n h) (ho : ∀ a, a ≠ i + 1 → cellOf g h' a = cellOf g h a) : (wsO g h).set i (og_b g + (i + 1), cellOf g h' (i + 1)) = wsO g h' := by
  apply List.ext_getElem?
  intro j
  rw [List.getElem?_set]
  by_cases hj : i = j
  · subst hj
    rw [if_pos rfl, wsO_len]
    by_cases hl : i < oh_n h
    · rw [if_pos hl, wsO_at (by rw [hn]; exact hl)]
    · rw [if_neg hl, List.getElem?_eq_none (by rw [wsO_len, hn]; exact Nat.le_of_not_lt hl)]
  · rw [if_neg hj]
    by_cases hl : j < oh_n h
    · rw [wsO_at hl, wsO_at (by rw [hn]; exact hl), ho (j + 1) (by omega)]
    · rw [List.getElem?_eq_none (by rw [wsO_len]; exact Nat.le_of_not_lt hl), List.getElem?_eq_none (by rw [wsO_len, hn]; exact Nat.le_of_not_lt hl)]
theorem wsO_D (g : OG) (h : OH) : va_D (fun q => og_b g < q) (wsO g h) := by
  refine ⟨fun i j p q hp hq e => ?_, fun k q hq => ?_⟩
  · have h1 := (wsO_inv hp).2
    have h2 := (wsO_inv hq).2
    omega
  · have h1 := (wsO_inv hq).2
    show og_b g < q.1
    omega
/-- the heap holds the picture, and the script as it was -/
def HOk (g : OG) (h : OH) (H : Heap) : Prop := H.size = og_b g + 1 + oh_n h ∧ va_P (og_D g) vwCl (wsO g h) H ∧ H[og_s g]? = some (og_c g) ∧ og_s g ≤ og_b g
def nW1 : Cond := .methodLinkNest RX10 15 yX7_init RX10
def nW2 : Cond := .methodLinkNest RX10 22 yX9_init RX10
def nW3 : Cond := .methodLinkNest RX10 25 yX3_init RX10
def nW4 : Cond := .methodLinkNest RX10 45 yX6_init RX10
def nW5 : Cond := .fieldLinkNest RX1 45 RX3 "kinds" "[I" RX10
def nW6 : Cond := .fieldLinkNest RX1 118 RX3 "needs" "[I" RX10
def KN (U : State) : Prop := (va_Nw nW1 U ∧ va_Nw nW2 U ∧ va_Nw nW3 U ∧ va_Nw nW4 U) ∧ va_Nw nW5 U ∧ va_Nw nW6 U
def KA (U : State) : Prop := va_AO "OneMatch$Row" U ∧ va_AO "OneMatch$Text" U ∧ va_AO "OneMatch$Campaign" U ∧ va_AO "OneMatch$Fire" U
/-- the script is an array of ints -/
def KS (g : OG) (U : State) : Prop := U.isArrayOf (og_c g) .int ∧ (og_c g).vm ≠ .unknown
def KOk (g : OG) (U : State) : Prop := va_K (og_D g) vwCl (og_tys g) U ∧ KN U ∧ KA U ∧ KS g U
theorem KOk.warm {g : OG} {s U : State} (hW : s.WarmedH U.vm) (h : KOk g s) : KOk g U := by
  obtain ⟨h1, ⟨⟨a1, a2, a3, a4⟩, a5, a6⟩, ⟨b1, b2, b3, b4⟩, c1, c2⟩ := h
  exact ⟨va_K.moved hW.alike h1, ⟨⟨va_Nw.warmM hW a1, va_Nw.warmM hW a2, va_Nw.warmM hW a3, va_Nw.warmM hW a4⟩, va_Nw.warmF hW a5, va_Nw.warmF hW a6⟩, ⟨va_AO.moved hW.alike b1, va_AO.moved hW.alike b2, va_AO.moved hW.alike b3, va_AO.moved hW.alike b4⟩, State.isArrayOf_alike hW.alike c1, c2⟩
theorem KOk.same {g : OG} {u U : State} (e : u.vm = U.vm) (h : KOk g u) : KOk g U := by
  obtain ⟨h1, ⟨⟨a1, a2, a3, a4⟩, a5, a6⟩, ⟨b1, b2, b3, b4⟩, c1, c2⟩ := h
  have ha : u.vm.Alike U.vm := by rw [e]; exact Vm.Alike.refl U.vm
  exact ⟨va_K.moved ha h1, ⟨⟨va_Nw.same rfl e a1, va_Nw.same rfl e a2, va_Nw.same rfl e a3, va_Nw.same rfl e a4⟩, va_Nw.same rfl e a5, va_Nw.same rfl e a6⟩, ⟨va_AO.moved ha b1, va_AO.moved ha b2, va_AO.moved ha b3, va_AO.moved ha b4⟩, State.isArrayOf_alike ha c1, c2⟩
def LOk (g : OG) (locs : List Loc) : Prop := ∀ q ∈ locs, og_b g < q.base
theorem LOk.put {g : OG} {locs : List Loc} (h : LOk g locs) {a k : Nat} (ha : og_b g < a) : LOk g (locs ++ [⟨a, k⟩]) := fun q hq => by
  rcases List.mem_append.mp hq with e | e
  · exact h q e
  · rw [List.mem_singleton.mp e]; exact ha
theorem LOk.app {g : OG} {locs L : List Loc} (h : LOk g locs) (hL : ∀ q ∈ L, og_b g < q.base) : LOk g (locs ++ L) := fun q hq => (List.mem_append.mp hq).elim (h q) (hL q)
abbrev OQ : Type := Option Value → OH → Prop
def QC (g : OG) (Q : OQ) : Array Value → State → Outcome → State → Prop := fun _ _ oc t => ∃ (v : Option Value) (h' : OH), oc = .returned v ∧ Q v h' ∧ HOk g h' t.heap
def PCO (g : OG) (args : List Value) (h : OH) : Array Value → State → Prop := va_Pc args (fun U => HOk g h U.heap ∧ KOk g U)
def roomO (d mc ms : Nat) : Room := { frames := d, cells := mc, slots := ms, locals := 64 * d }
/-- the method mi, called with args over h, comes back with Q -/
def OCall (g : OG) (d mc ms : Nat) (mi : MI) (args : List Value) (h : OH) (Q : OQ) : Prop :=
  Met (og_l g) mi.1 (wsM mi) (roomO d mc ms) (PCO g args h) (QC g Q) mc ms (fun q => og_b g < q)
def RC (g : OG) (mi : MI) (d : Nat) (p : Program) (R : Room) (s : State) (m : MethodId) (args : Array Value) (meth : Method) (c : Code) (tc ts : Nat) : Prop :=
  p.tables.exec = Jvm.exec ∧ c.code = mi.2.1 ∧ c.maxLocals = mi.2.2.1 ∧ s.vm.findClass mi.1.cls = some m.cls ∧ (∀ w ∈ GW, w.before args s = true) ∧ KOk g s ∧ meth.sig.returnType = mi.2.2.2 ∧ meth.locks = false ∧ meth.name = mi.1.name ∧ d ≤ R.frames ∧ 64 * d ≤ R.locals ∧ tc ≤ R.cells ∧ ts ≤ R.slots
/-- the method mi at pc, with locals lv and stack st, over h, comes back with Q; it may still make mc cells of ms slots -/
def ORuns (g : OG) (d mc ms : Nat) (mi : MI) (pc : Nat) (lv : List (Nat × Value)) (st : List Value) (h : OH) (Q : OQ) : Prop :=
  ∀ (p : Program) (e : Env) (R : Room) (s : State) (m : MethodId) (args : Array Value) (below : List Frame) (meth : Method) (c : Code) (H : Heap) (locs : List Loc) (cells slots tc ts : Nat) (ls : Array Slot),
    RC g mi d p R s m args meth c tc ts → cells + mc ≤ tc → slots + ms ≤ ts → HOk g h H → LOk g locs → lv_has ls mi.2.2.1 lv →
    W p (og_l g) e R s m args below meth c H locs cells slots (MQ below (QC g Q) args s tc ts (fun q => og_b g < q)) (F0 m pc ls st)
theorem ocall_of {g : OG} {d mc ms : Nat} {mi : MI} {args : List Value} {h : OH} {Q : OQ} (hpl : plainName mi.1.cls = true) (hfit : (lg_sl args).length ≤ mi.2.2.1)
    (k : ORuns g d mc ms mi 0 (lv_args 0 args) [] h Q) : OCall g d mc ms mi args h Q := by
  refine Met.ofW (cc := mi.2.1) (maxL := mi.2.2.1) (ret := mi.2.2.2) hpl rfl ?_
  intro p e s m args' below meth c s₁ B hml hv
  obtain ⟨rfl, hH, hK⟩ := hv
  have hts := atoms_spec (ws := wsM mi) B.pre
  have hl := lv_entry args (n := mi.2.2.1) hfit
  rw [lg_entry_eq]
  exact k p e _ s m _ below meth c s.heap [] 0 0 mc ms _ ⟨B.exec, B.bytes, hml, findClass_of_methodNamed B.named, fun w hw => hts w (List.mem_cons_of_mem _ hw), hK, B.returns, B.notSynchronized, (name_of_methodNamed B.named B.method).1, Nat.le_refl _, Nat.le_refl _, Nat.le_refl _, Nat.le_refl _⟩ (by omega) (by omega) hH (fun _ h => by cases h) hl
theorem pco_blind (g : OG) (args : List Value) (h : OH) : FrameBlind (PCO g args h) := fun _ _ _ _ q => by
  obtain ⟨e, hH, hK⟩ := q
  exact ⟨e, hH, KOk.same rfl hK⟩
theorem oruns_mono {g : OG} {d mc ms : Nat} {mi : MI} {pc : Nat} {lv : List (Nat × Value)} {st : List Value} {h : OH} {Q Q' : OQ} (hq : ∀ v h', Q v h' → Q' v h') (k : ORuns g d mc ms mi pc lv st h Q) : ORuns g d mc ms mi pc lv st h Q' := by
  intro p e R s m args below meth c H locs cells slots tc ts ls C hc hs hH hS hl T hT X
  obtain ⟨t, a, o, b1, b2, ⟨v, h', c1, c2, c3⟩, b4⟩ := k p e R s m args below meth c H locs cells slots tc ts ls C hc hs hH hS hl T hT X
  exact ⟨t, a, o, b1, b2, ⟨v, h', c1, hq _ _ c2, c3⟩, b4⟩
theorem ocall_mono {g : OG} {d mc ms : Nat} {mi : MI} {args : List Value} {h : OH} {Q Q' : OQ} (hq : ∀ v h', Q v h' → Q' v h') (k : OCall g d mc ms mi args h Q) : OCall g d mc ms mi args h Q' := by
  have hi : ∀ (a : Array Value) (st : State) (o : Outcome) (t : State), QC g Q a st o t → QC g Q' a st o t := fun _ _ _ _ ⟨v, h', c1, c2, c3⟩ => ⟨v, h', c1, hq _ _ c2, c3⟩
  unfold OCall Met MetFree at k ⊢
  intro p e ha hc hk s m args below hf happ hpre hk2
  obtain ⟨n, o, b1, b2, b3, b4, b5⟩ := k p e ha hc hk s m args below hf happ hpre hk2
  exact ⟨n, o, b1, b2, b3, hi _ _ _ _ b4, b5⟩

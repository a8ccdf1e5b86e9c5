/-! THE CLAIM OUT OF ONE WALK OF THE LAW'S BODY. Your part is whole_start (and what it stands on); all else here is the same for every law, but numbers. -/
def R_law : String := "OneMatchLaw"
def lw_P (b : Addr) (xs : List Int32) (args : Array Value) (s : State) : Prop := args = #[.ref b] ∧ s.IntsAt b xs ∧ xs.length ≤ 384 ∧ (Jvm.Cond.and given_1 narrow_1).before args s = true
def lw_Q (_ : Array Value) (s : State) (o : Outcome) (t : State) : Prop := o = .returned (some (.int 1)) ∧ Framed s o t [] 600000 7302250
def lw_Z (below : List Frame) (a : Array Value) (s : State) : State → Prop := fun t => ∃ o, t.status = .running ∧ Ended t below o ∧ lw_Q a s o t
/-- the law's own end, with 1 on the stack, nothing written that was there before, its room as the claim has it -/
theorem lw_ret {p : Program} {l : Launch} {e : Env} {s : State} {m : MethodId} {below : List Frame} {meth : Method} {c : Code} {b : Nat} (hx : p.tables.exec = Jvm.exec) (hb : c.code = code) (hr : meth.sig.returnType = ret) (hlocks : meth.locks = false) {pc : Nat} {H : Heap} {ls : Array Slot} (hdg : decode code pc = .ok (.ireturn, 1)) : W p l e room_1 s m #[Value.ref b] below meth c H [] 600000 7302250 (lw_Z below #[Value.ref b] s) (F0 m pc ls [.int 1]) := by
  intro T hT X
  obtain ⟨fs, hret, hrun, hended, hW, hframe⟩ := X.leave (v := some (.int 1)) (hlocks := hlocks) (fun h => by rw [hr] at h; cases h)
  have hmeth' : T.vm.method? m = some meth := X.method'
  refine ⟨T.setFrames fs, ?_, .returned (some (.int 1)), hrun, hended, rfl, ⟨_, rfl⟩, hW, hframe⟩
  jvm_step X.here [X.here.top, hx, hb, hdg, hmeth', hr, ret, narrow_b1]
  (try refine ⟨rfl, ?_⟩); (try refine ⟨rfl, ?_⟩)
  first | (intro acts; rw [hret _ acts rfl rfl rfl]) | rw [hret _ _ rfl rfl rfl]
  exact Steps.refl _
/-- what holds at the law's entry: the machine, the code, the tables' words (any of lw_tbl by 'hts w (by decide +kernel)'), the script of L ints xs at the cell b, what the Statement gives of the start (any of its parts by flat_of_before) -/
def lw_At (p : Program) (s : State) (m : MethodId) (meth : Method) (c : Code) (b L : Nat) (xs : Nat → Int32) : Prop :=
  p.tables.exec = Jvm.exec ∧ c.code = code ∧ meth.sig.returnType = ret ∧ c.maxLocals = 4 ∧ s.vm.findClass R_law = some m.cls ∧ (∀ w ∈ lw_tbl, w.before #[Value.ref b] s = true) ∧ va_X b L xs s s.heap ∧ b < s.heap.size ∧ meth.locks = false ∧ (Jvm.Cond.and given_1 narrow_1).before #[Value.ref b] s = true
set_option maxHeartbeats 4000000 in
set_option maxRecDepth 100000 in
/-- THE LAW, from its entry -/
theorem whole_start {p : Program} {e : Env} {s : State} {m : MethodId} {below : List Frame} {meth : Method} {c : Code} (l : Launch) {b L : Nat} {xs : Nat → Int32} (hL : L ≤ 384) (C0 : lw_At p s m meth c b L xs) : W p l e room_1 s m #[Value.ref b] below meth c s.heap [] 0 0 (lw_Z below #[Value.ref b] s) (entryFrame m ([Value.ref b] : List Value).toArray 4) := by
  obtain ⟨hx, hb, hr, hml, hown, hts, ⟨scr, x1, x2, x3, x4, x5⟩, hbl, hlocks, hgv⟩ := C0
  have hgw : ∀ w ∈ GW, w.before #[Value.ref b] s = true := fun w hw => hts w (List.mem_filter.mp hw).1
  obtain ⟨c0, i0, k0⟩ := u_known (C := RX0) (T := TX0) (N := 5) (n := 5) hgw cls_0.2.1 (hgw _ gw_151)
  obtain ⟨c1, i1, k1⟩ := u_known (C := RX1) (T := TX1) (N := 7) (n := 7) hgw cls_1.2.1 (hgw _ gw_157)
  obtain ⟨c2, i2, k2⟩ := u_known (C := RX3) (T := TX3) (N := 5) (n := 5) hgw cls_2.2.1 (hgw _ gw_123)
  obtain ⟨c3, i3, k3⟩ := u_known (C := RX4) (T := TX4) (N := 6) (n := 6) hgw cls_3.2.1 (hgw _ gw_291)
  obtain ⟨c4, i4, k4⟩ := u_known (C := RX5) (T := TX5) (N := 10) (n := 10) hgw cls_4.2.1 (hgw _ gw_220)
  obtain ⟨c5, i5, k5⟩ := u_known (C := RX6) (T := TX6) (N := 0) (n := 0) hgw cls_5.2.1 (hgw _ gw_211)
  obtain ⟨c6, i6, k6⟩ := u_known (C := RX7) (T := TX7) (N := 2) (n := 2) hgw cls_6.2.1 (hgw _ gw_89)
  obtain ⟨c7, i7, k7⟩ := u_known (C := RX8) (T := TX8) (N := 5) (n := 5) hgw cls_7.2.1 (hgw _ gw_265)
  obtain ⟨c8, i8, k8⟩ := u_known (C := RX9) (T := TX9) (N := 2) (n := 2) hgw cls_8.2.1 (hgw _ gw_108)
  obtain ⟨c9, i9, k9⟩ := u_known (C := RX10) (T := TX10) (N := 17) (n := 17) hgw cls_9.2.1 (hgw _ gw_80)
  obtain ⟨c10, i10, k10⟩ := u_known (C := RX11) (T := TX11) (N := 38) (n := 38) hgw cls_10.2.1 (hgw _ gw_1021)
  obtain ⟨A11, K11, p11, x11, y11, w11⟩ := Cond.arrayClass_spec (hgw _ gw_105)
  obtain ⟨A12, K12, p12, x12, y12, w12⟩ := Cond.arrayClass_spec (hgw _ gw_121)
  obtain ⟨A13, K13, p13, x13, y13, w13⟩ := Cond.arrayClass_spec (hgw _ gw_1141)
  have ao14 := hts (.arrayOver (.object "OneMatch$Row")) (by decide +kernel)
  obtain ⟨p14, A14, K14, v14, -, y14, w14, x14⟩ := Cond.arrayOver_spec ao14
  have ao15 := hts (.arrayOver (.object "OneMatch$Text")) (by decide +kernel)
  obtain ⟨p15, A15, K15, v15, -, y15, w15, x15⟩ := Cond.arrayOver_spec ao15
  have ao16 := hts (.arrayOver (.object "OneMatch$Campaign")) (by decide +kernel)
  obtain ⟨p16, A16, K16, v16, -, y16, w16, x16⟩ := Cond.arrayOver_spec ao16
  have ao17 := hts (.arrayOver (.object "OneMatch$Fire")) (by decide +kernel)
  obtain ⟨p17, A17, K17, v17, -, y17, w17, x17⟩ := Cond.arrayOver_spec ao17
  obtain ⟨dC, dI, hKc⟩ : ∃ (dC : Nat → ClassId) (dI : Nat → Nat → Nat), ∀ (k : Nat) (q : vw_C), vwCl[k]? = some q → u_Kn s q.1 q.2.1 q.2.2 (dC k) (dI k) := by
    refine ⟨fun k => if k = 0 then c0 else if k = 1 then c1 else if k = 2 then c2 else if k = 3 then c3 else if k = 4 then c4 else if k = 5 then c5 else if k = 6 then c6 else if k = 7 then c7 else if k = 8 then c8 else if k = 9 then c9 else c10, fun k => if k = 0 then i0 else if k = 1 then i1 else if k = 2 then i2 else if k = 3 then i3 else if k = 4 then i4 else if k = 5 then i5 else if k = 6 then i6 else if k = 7 then i7 else if k = 8 then i8 else if k = 9 then i9 else i10, ?_⟩
    intro k q hq
    match k, hq with
    | 0, hq => cases hq; exact k0
    | 1, hq => cases hq; exact k1
    | 2, hq => cases hq; exact k2
    | 3, hq => cases hq; exact k3
    | 4, hq => cases hq; exact k4
    | 5, hq => cases hq; exact k5
    | 6, hq => cases hq; exact k6
    | 7, hq => cases hq; exact k7
    | 8, hq => cases hq; exact k8
    | 9, hq => cases hq; exact k9
    | 10, hq => cases hq; exact k10
    | k + 11, hq => simp [vwCl] at hq
  obtain ⟨g, gl, gb, gD, gs, gc, hty⟩ : ∃ g : OG, og_l g = l ∧ og_b g = s.heap.size - 1 ∧ og_D g = (dC, dI) ∧ og_s g = b ∧ og_c g = scr ∧ ∀ (k : Nat) (q : ClassId × FieldType), (og_tys g)[k]? = some q → ArrOfT s q.1 q.2 ∧ va_RA s q.1 q.2 := by
    refine ⟨(l, s.heap.size - 1, (dC, dI), (fun k => if k = 11 then A11 else if k = 12 then A12 else if k = 13 then A13 else if k = 14 then A14 else if k = 15 then A15 else if k = 16 then A16 else A17), b, scr), rfl, rfl, rfl, rfl, rfl, ?_⟩
    intro k q hq
    match k, hq with
    | 0, hq => cases hq; exact ⟨fun n z => ⟨fun k h => (by cases h), K11, y11, p11, w11⟩, x11⟩
    | 1, hq => cases hq; exact ⟨fun n z => ⟨fun k h => (by cases h), K12, y12, p12, w12⟩, x12⟩
    | 2, hq => cases hq; exact ⟨fun n z => ⟨fun k h => (by cases h), K13, y13, p13, w13⟩, x13⟩
    | 3, hq => cases hq; exact ⟨fun n z => ⟨fun k h => (by cases h), K14, y14, p14, w14⟩, K14, p14, y14, w14, v14, x14⟩
    | 4, hq => cases hq; exact ⟨fun n z => ⟨fun k h => (by cases h), K15, y15, p15, w15⟩, K15, p15, y15, w15, v15, x15⟩
    | 5, hq => cases hq; exact ⟨fun n z => ⟨fun k h => (by cases h), K16, y16, p16, w16⟩, K16, p16, y16, w16, v16, x16⟩
    | 6, hq => cases hq; exact ⟨fun n z => ⟨fun k h => (by cases h), K17, y17, p17, w17⟩, K17, p17, y17, w17, v17, x17⟩
    | k + 7, hq => simp [og_tys] at hq
  have hK : KOk g s := by
    refine ⟨⟨by rw [gD]; exact hKc, hty⟩, ⟨⟨va_Nw.of rfl (hts nW1 (by decide +kernel)), va_Nw.of rfl (hts nW2 (by decide +kernel)), va_Nw.of rfl (hts nW3 (by decide +kernel)), va_Nw.of rfl (hts nW4 (by decide +kernel))⟩, va_Nw.of rfl (hts nW5 (by decide +kernel)), va_Nw.of rfl (hts nW6 (by decide +kernel))⟩, ⟨va_AO.of ao14, va_AO.of ao15, va_AO.of ao16, va_AO.of ao17⟩, ?_⟩
    unfold KS
    rw [gc]
    exact ⟨x2, x3⟩
  have hscr : scr_xs g L xs := by
    unfold scr_xs
    rw [gc]
    exact ⟨x4, by omega, x5⟩
  have hH : HOk g (PS 0 []) s.heap := by
    refine ⟨?_, fun k q hq => ?_, by rw [gs, gc]; exact x1, by rw [gs, gb]; omega⟩
    · rw [gb]
      show s.heap.size = s.heap.size - 1 + 1 + 0
      omega
    · have : (wsO g (PS 0 []))[k]? = none := List.getElem?_eq_none (by rw [wsO_len]; exact Nat.zero_le _)
      rw [this] at hq
      cases hq
  have hl := lv_entry ([.ref b]) (n := 4) (Nat.le_of_ble_eq_true rfl)
  rw [lg_entry_eq]
  have hR : RC g (iLw meth.name) (0 + 18 + 1) p room_1 s m #[Value.ref b] meth c 600000 7302250 :=
    ⟨hx, hb, hml, hown, hgw, hK, hr, hlocks, rfl, Nat.le_of_ble_eq_true rfl, Nat.le_of_ble_eq_true rfl, Nat.le_of_ble_eq_true rfl, Nat.le_of_ble_eq_true rfl⟩
  have hE := lw_entry (g := g) (L := L) (xs := xs) (nm := meth.name) hscr (d := 0) hL
  rw [gs] at hE
  have hW := hE p e room_1 s m #[Value.ref b] below meth c s.heap [] 0 0 600000 7302250 _ hR (Nat.le_of_ble_eq_true rfl) (Nat.le_of_ble_eq_true rfl) hH (fun _ h => by cases h) hl
  rw [gl] at hW
  intro T hT X
  obtain ⟨t, a1, o, b1, b2, ⟨v, h', e1, ⟨r, e2, _, _, _, e3⟩, _⟩, Ls, ⟨f1, f2, q1, q2, q3, q4, q5, q6⟩, hLs⟩ := hW T hT X
  subst e3
  subst e2
  refine ⟨t, a1, o, b1, b2, e1, f1, f2, q1, q2, q3, q4, q5, fun a cc ha => ?_⟩
  obtain ⟨c', j1, j2, j3, j4⟩ := q6 a cc ha
  refine ⟨c', j1, j2, j3, fun i _ => j4 i (fun y => ?_)⟩
  have h1 := hLs _ y
  have h2 : a < s.heap.size := (Array.getElem?_eq_some_iff.mp ha).1
  have h3 : og_b g < a := h1
  rw [gb] at h3
  exact Nat.lt_irrefl _ (Nat.lt_of_lt_of_le h3 (Nat.le_sub_one_of_lt h2))

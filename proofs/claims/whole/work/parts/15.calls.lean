/-! ===== calls ===== -/
def okY (mi : MI) (n : Nat) : Prop := mi.1.cls ≠ "java/lang/invoke/MethodHandle" ∧ mi.1.cls ≠ "java/lang/invoke/VarHandle" ∧ (parseMethodDescriptor mi.1.desc).map (fun d => d.parameters.length) = some n
def VM (mi : MI) (n : Nat) : Prop := Cond.instanceMethod mi.1 ∈ GW ∧ Cond.selects mi.1.cls mi.1 mi.1 ∈ GW ∧ Cond.initialized mi.1.cls ∈ GW ∧ miCode mi ∈ GW ∧ okY mi n ∧ mi.2.2.1 ≤ 40
def SM (mi : MI) (n : Nat) : Prop := Cond.static mi.1 ∈ GW ∧ Cond.initialized mi.1.cls ∈ GW ∧ miCode mi ∈ GW ∧ okY mi n ∧ mi.2.2.1 ≤ 40
def CM (mi : MI) (n : Nat) : Prop := Cond.instanceMethod mi.1 ∈ GW ∧ Cond.initialized mi.1.cls ∈ GW ∧ miCode mi ∈ GW ∧ okY mi n ∧ mi.2.2.1 ≤ 40 ∧ mi.1.name = "<init>" ∧ mi.2.2.2 = none
section CL
variable {g : OG} {d mc ms mc' ms' : Nat} {mi mi' : MI} {pc n np : Nat} {lv : List (Nat × Value)} {rest As : List Value} {h : OH} {Q : OQ} {idx a ci : Nat} {q : vw_C}
theorem o_after {p : Program} {e : Env} {R : Room} {s : State} {m : MethodId} {args a' : Array Value} {below : List Frame} {meth : Method} {c : Code} {H : Heap} {locs : List Loc} {cells slots : Nat} {ls : Array Slot} {st0 : List Value} {K : OQ} {Z : State → Prop}
    (hr : va_Run p (og_l g) e R s m args below meth c H locs cells slots mc' ms' (F0 m pc ls st0) rest (QC g K a') (fun q => og_b g < q)) (hS : LOk g locs)
    (kk : ∀ (v : Option Value) (h' : OH) (H1 : Heap) (locs1 : List Loc), K v h' → HOk g h' H1 → LOk g locs1 → W p (og_l g) e R s m args below meth c H1 locs1 (cells + mc') (slots + ms') Z (F0 m (pc + 3) ls (v.toList ++ rest))) : W p (og_l g) e R s m args below meth c H locs cells slots Z (F0 m pc ls st0) := by
  intro T hT X
  obtain ⟨v, st₀, t, T', L, h0, X', hL, e1, e2, ⟨v', h', hv, hK, hH'⟩, st⟩ := hr T hT X
  cases hv
  obtain ⟨t2, a1, b1⟩ := kk v h' T'.heap (locs ++ L) hK (by rw [e1]; exact hH') (hS.app hL) T' rfl X'
  exact ⟨t2, st t2 a1, b1⟩
theorem r_callV (hm : VM mi' np) (hlk : Cond.methodLink mi.1.cls idx mi'.1 ∈ GW) (ha : IsObj h a ci) (hq : ci < 11 ∧ vwCl[ci]? = some q ∧ q.1 = mi'.1.cls) (hA : As.length = np) (hr : (rest.map fun v => v.category).sum ≤ 8) (hd : decode mi.2.1 pc = .ok (.invokevirtual idx, 3)) (hn : pc + 3 = n)
    (k : OCall g d mc' ms' mi' (.ref (og_b g + a) :: As) h (fun v h' => ORuns g (d + 1) mc ms mi n lv (v.toList ++ rest) h' Q)) : ORuns g (d + 1) (mc' + mc) (ms' + ms) mi pc lv (As.reverse ++ .ref (og_b g + a) :: rest) h Q := by
  subst hn
  intro p e R s m args below meth c H locs cells slots tc ts ls C hc hs hH hS hl
  obtain ⟨i, e1, hi, e2⟩ := obj_at (g := g) ha hq.1
  obtain ⟨hx, hb, hml, hown, hts, hK, hret, hlk2, hnm, hfr, hlo, htc, hts2⟩ := id C
  have hcw : CallW R s args mi.1.cls mi'.1.cls idx mi'.1 mi'.2.1 mi'.2.2.1 mi'.2.2.2 (wsM mi') (roomO d mc' ms') mc' ms' np :=
    ⟨callB_of np hts (gw_wsM hm.2.2.2.1) rfl rfl rfl (hts _ hm.2.2.1) (hts _ hlk) hm.2.2.2.2.1 ⟨by show d + 1 ≤ _; exact hfr, by show 8 + (mi'.2.2.1 + 11) + 64 * d ≤ _; have := hm.2.2.2.2.2; omega⟩, hts _ hm.1, hts _ hm.2.1⟩
  have hrun := va_runV (p := p) (e := e) (below := below) (meth := meth) (locs := locs) (cells := cells) (slots := slots) (H := H) (b := og_b g + a) (As := As) (rest := rest) (g := F0 m pc ls (As.reverse ++ .ref (og_b g + a) :: rest)) (Ts := GW) ⟨hx, hb, hml, hown, hts⟩ k hcw
    ⟨pco_blind _ _ _, by
      obtain ⟨cell, z1, z2, z3⟩ := va_recv hK.1 hH.2.1 hq.2.1 e2
      exact ⟨cell, z1, z2, by rw [← hq.2.2]; exact z3⟩, fun U hU hW => ⟨rfl, by rw [hU]; exact hH, KOk.warm hW hK⟩⟩ rfl hA hl.1 rfl (lv_room hr) hd ⟨by omega, by omega⟩
  exact o_after hrun hS (fun v h' H1 locs1 hk hH' hS' => hk p e R s m args below meth c H1 locs1 _ _ tc ts ls C (by omega) (by omega) hH' hS' hl)
theorem r_callS (hm : SM mi' np) (hlk : Cond.methodLink mi.1.cls idx mi'.1 ∈ GW) (hA : As.length = np) (hr : (rest.map fun v => v.category).sum ≤ 8) (hd : decode mi.2.1 pc = .ok (.invokestatic idx, 3)) (hn : pc + 3 = n)
    (k : OCall g d mc' ms' mi' As h (fun v h' => ORuns g (d + 1) mc ms mi n lv (v.toList ++ rest) h' Q)) : ORuns g (d + 1) (mc' + mc) (ms' + ms) mi pc lv (As.reverse ++ rest) h Q := by
  subst hn
  intro p e R s m args below meth c H locs cells slots tc ts ls C hc hs hH hS hl
  obtain ⟨hx, hb, hml, hown, hts, hK, hret, hlk2, hnm, hfr, hlo, htc, hts2⟩ := id C
  have hcw : CallB R s args mi.1.cls idx mi'.1 mi'.2.1 mi'.2.2.1 mi'.2.2.2 (wsM mi') (roomO d mc' ms') mc' ms' np ∧ (Cond.static mi'.1).before args s = true :=
    ⟨callB_of np hts (gw_wsM hm.2.2.1) rfl rfl rfl (hts _ hm.2.1) (hts _ hlk) hm.2.2.2.1 ⟨by show d + 1 ≤ _; exact hfr, by show 8 + (mi'.2.2.1 + 11) + 64 * d ≤ _; have := hm.2.2.2.2; omega⟩, hts _ hm.1⟩
  have hrun := va_runS (p := p) (e := e) (below := below) (meth := meth) (locs := locs) (cells := cells) (slots := slots) (H := H) (As := As) (rest := rest) (g := F0 m pc ls (As.reverse ++ rest)) (Ts := GW) ⟨hx, hb, hml, hown, hts⟩ k hcw
    ⟨pco_blind _ _ _, fun U hU hW => ⟨rfl, by rw [hU]; exact hH, KOk.warm hW hK⟩⟩ rfl hA hl.1 rfl (lv_room hr) hd ⟨by omega, by omega⟩
  exact o_after hrun hS (fun v h' H1 locs1 hk hH' hS' => hk p e R s m args below meth c H1 locs1 _ _ tc ts ls C (by omega) (by omega) hH' hS' hl)
theorem r_callI (hm : CM mi' np) (hlk : Cond.methodLink mi.1.cls idx mi'.1 ∈ GW) (hA : As.length = np) (hr : (rest.map fun v => v.category).sum ≤ 8) (hd : decode mi.2.1 pc = .ok (.invokespecial idx, 3)) (hn : pc + 3 = n)
    (k : OCall g d mc' ms' mi' (.ref (og_b g + a) :: As) h (fun v h' => ORuns g (d + 1) mc ms mi n lv (v.toList ++ rest) h' Q)) : ORuns g (d + 1) (mc' + mc) (ms' + ms) mi pc lv (As.reverse ++ .ref (og_b g + a) :: rest) h Q := by
  subst hn
  intro p e R s m args below meth c H locs cells slots tc ts ls C hc hs hH hS hl
  obtain ⟨hx, hb, hml, hown, hts, hK, hret, hlk2, hnm, hfr, hlo, htc, hts2⟩ := id C
  have hcw : CallB R s args mi.1.cls idx mi'.1 mi'.2.1 mi'.2.2.1 none (wsM mi') (roomO d mc' ms') mc' ms' np ∧ mi'.1.name = "<init>" ∧ (Cond.instanceMethod mi'.1).before args s = true :=
    ⟨callB_of np hts (gw_wsM hm.2.2.1) (by unfold wsM miCode; rw [hm.2.2.2.2.2.2]) rfl rfl (hts _ hm.2.1) (hts _ hlk) hm.2.2.2.1 ⟨by show d + 1 ≤ _; exact hfr, by show 8 + (mi'.2.2.1 + 11) + 64 * d ≤ _; have := hm.2.2.2.2.1; omega⟩, hm.2.2.2.2.2.1, hts _ hm.1⟩
  have hrun := va_runI (p := p) (e := e) (below := below) (meth := meth) (locs := locs) (cells := cells) (slots := slots) (H := H) (b := og_b g + a) (As := As) (rest := rest) (g := F0 m pc ls (As.reverse ++ .ref (og_b g + a) :: rest)) (Ts := GW) ⟨hx, hb, hml, hown, hts⟩ k hcw
    ⟨pco_blind _ _ _, fun U hU hW => ⟨rfl, by rw [hU]; exact hH, KOk.warm hW hK⟩⟩ rfl hA hl.1 rfl (lv_room hr) hd ⟨by omega, by omega⟩
  exact o_after hrun hS (fun v h' H1 locs1 hk hH' hS' => hk p e R s m args below meth c H1 locs1 _ _ tc ts ls C (by omega) (by omega) hH' hS' hl)
theorem r_callIN {host : String} (hm : CM mi' np) (hlk : ∀ U, KOk g U → va_Nw (.methodLinkNest mi.1.cls idx mi'.1 host) U) (hA : As.length = np) (hr : (rest.map fun v => v.category).sum ≤ 8) (hd : decode mi.2.1 pc = .ok (.invokespecial idx, 3)) (hn : pc + 3 = n)
    (k : OCall g d mc' ms' mi' (.ref (og_b g + a) :: As) h (fun v h' => ORuns g (d + 1) mc ms mi n lv (v.toList ++ rest) h' Q)) : ORuns g (d + 1) (mc' + mc) (ms' + ms) mi pc lv (As.reverse ++ .ref (og_b g + a) :: rest) h Q := by
  subst hn
  intro p e R s m args below meth c H locs cells slots tc ts ls C hc hs hH hS hl
  obtain ⟨hx, hb, hml, hown, hts, hK, hret, hlk2, hnm, hfr, hlo, htc, hts2⟩ := id C
  have hcw : va_CN R s args mi.1.cls idx mi'.1 host mi'.2.1 mi'.2.2.1 none (wsM mi') (roomO d mc' ms') mc' ms' np ∧ mi'.1.name = "<init>" ∧ (Cond.instanceMethod mi'.1).before args s = true :=
    ⟨va_cnB np hts (gw_wsM hm.2.2.1) (by unfold wsM miCode; rw [hm.2.2.2.2.2.2]) rfl rfl (hlk s hK) (hts _ hm.2.1) hm.2.2.2.1 ⟨by show d + 1 ≤ _; exact hfr, by show 8 + (mi'.2.2.1 + 11) + 64 * d ≤ _; have := hm.2.2.2.2.1; omega⟩, hm.2.2.2.2.2.1, hts _ hm.1⟩
  have hrun := va_runIN (p := p) (e := e) (below := below) (meth := meth) (locs := locs) (cells := cells) (slots := slots) (H := H) (b := og_b g + a) (As := As) (rest := rest) (g := F0 m pc ls (As.reverse ++ .ref (og_b g + a) :: rest)) (Ts := GW) ⟨hx, hb, hml, hown, hts⟩ k hcw
    ⟨pco_blind _ _ _, fun U hU hW => ⟨rfl, by rw [hU]; exact hH, KOk.warm hW hK⟩⟩ rfl hA hl.1 rfl (lv_room hr) hd ⟨by omega, by omega⟩
  exact o_after hrun hS (fun v h' H1 locs1 hk hH' hS' => hk p e R s m args below meth c H1 locs1 _ _ tc ts ls C (by omega) (by omega) hH' hS' hl)
theorem r_objInit {st : List Value} (hlk : Cond.methodLink mi.1.cls idx Lib.objectInit ∈ GW) (hg : Cond.instanceMethod Lib.objectInit ∈ GW ∧ Cond.code Lib.objectInit ⟨#[0xb1]⟩ 1 none ∈ GW) (hr : (st.map fun v => v.category).sum ≤ 8) (hd : decode mi.2.1 pc = .ok (.invokespecial idx, 3)) (hn : pc + 3 = n)
    (k : ORuns g (d + 1) mc ms mi n lv st h Q) : ORuns g (d + 1) mc ms mi pc lv (.ref (og_b g + a) :: st) h Q := by
  subst hn
  intro p e R s m args below meth c H locs cells slots tc ts ls C hc hs hH hS hl
  have hfr := C.2.2.2.2.2.2.2.2.2.1
  have hlo := C.2.2.2.2.2.2.2.2.2.2.1
  exact W.objInit C.1 C.2.1 C.2.2.2.1 (C.2.2.2.2.1 _ hlk) (C.2.2.2.2.1 _ hg.1) (C.2.2.2.2.1 _ hg.2) rfl (by rw [C.2.2.1]; exact hl.1) rfl hd (by omega) (by show 2 * 0 + _ + 12 ≤ _; omega) (k p e R s m args below meth c H locs cells slots tc ts ls C hc hs hH hS hl)
end CL

/-! ===== the model's reader: the whole text; fault ===== -/
section T87
variable {g : OG} {d : Nat} {I : IT} {X : XT} {K : Int32 → IT → XT → Prop} {KV : IT → XT → Prop}
variable {z w m p t : Nat} {G : Nat → Int32} {hd wd : Nat → Nat}
theorem hou_fig {q : Nat} (hp : p < z) (hf : figN (G p) ≤ 9) : houR G z w wd (q + 1) p m hd = (p, m, w, hd, wd) := by
  show (if z ≤ p then _ else _) = _
  have h32 : ¬ G p = 32 := fun e => by rw [e] at hf; exact absurd hf (by decide)
  rw [if_neg (by omega), if_neg h32, if_pos (Or.inl (kind_fig hf))]
theorem lp_houM (h0 : TM I t z G) {R : RD} (hw0 : w ≠ 0) (hw6 : w ≤ 6) (hK : ∀ I', SR3 I I' → (R.1 = 99 → ∃ p', MDS I' p' R.2.1 R.2.2.1 R.2.2.2.1 R.2.2.2.2) → K (ndI R.1) I' X) : ∀ (q p m : Nat) (hd : Nat → Nat) (I' : IT), z + 1 ≤ p + q → p ≤ z → m ≤ 5 → SR3 I I' → MDS I' p m w hd wd → houR G z w wd q p m hd = R → SR g (d + 4) iX11_faultOf 15 [(0, rf g 129), (1, .int (nI t))] I' X (qI K) := by
  have hz := h0.2.2.1
  have ht4 := h0.1
  intro q
  induction q with
  | zero => intro p m hd I' hq hp; omega
  | succ q ih =>
    intro p m hd I' hq hp hm hS hM he
    have hT : TM I' t z G := h0.same (fun b k hb => hS b k (by omega))
    obtain ⟨m1, m2, m3, m4, m5⟩ := id hM
    refine rg_X11_faultOf_15 ?_
    rw [nI_clamp (n := t) (by omega), hT.2.1, m1, nI_leI (by omega) (by omega), m2]
    have flt : ∀ I2 v, SR3 I I2 → v ≤ 63 → R.1 = v → K (nI v) I2 X := by
      intro I2 v h2 hv e1
      have := hK I2 h2 (fun y => absurd y (by rw [e1]; omega))
      rw [e1, ndI_lt (by omega)] at this
      exact this
    refine ⟨vp_in_nI (by omega) (by decide), fun c => ?_, fun c => hT.byte (p := p) rfl (by omega) (fun u hu => ⟨fun c32 => ⟨fun _ => ?_, fun y => absurd ((nI_eqL 0 (by omega) (by decide)).mp (m3.symm.trans y)) hw0⟩, fun c32 I12 e12 => ?_⟩)⟩
    · have e : houR G z w wd (q + 1) p m hd = (if m = 0 then z else 99, m, w, hd, wd) := by
        show (if z ≤ p then _ else _) = _
        rw [if_pos c]
      rw [e] at he
      rw [show nI m = 0 ↔ m = 0 from nI_eqL 0 (by omega) (by decide)]
      refine ⟨fun c0 => ?_, fun c0 => ⟨vp_in_nI (by omega) (by decide), flt I' z hS (by omega) (by rw [← he]; exact if_pos c0)⟩⟩
      have e99 : R.1 = 99 := by rw [← he]; exact if_neg c0
      have := hK I' hS (fun _ => ⟨p, by rw [← he]; exact hM⟩)
      rw [e99] at this
      exact this
    · have h32 : ¬ G p = 32 := fun y => c32 (hu.1.mpr y)
      have ex : houR G z w wd (q + 1) p m hd = if kindI (G p) = -9 ∨ m = 5 then (p, m, w, hd, wd) else if ¬ figN (G (p + 1)) ≤ 9 then (p + 1, m, w, hd, wd) else if ¬ figN (G (p + 2)) ≤ 3 then (p + 2, m, w, hd, wd) else if ¬ (G (p + 3) = 45 ∨ figN (G (p + 3)) ≤ 9) then (p + 3, m, w, hd, wd) else houR G z w wd q (p + 4) (m + 1) (hset hd m G p) := by
        show (if z ≤ p then _ else _) = _
        rw [if_neg c, if_neg h32]
      rw [ex] at he
      have nf : ∀ I2 v, SR3 I I2 → v ≤ 63 → R.1 = v → I2 129 15 = nI v → (¬ (0 : Int32) = 0 → SR g (d + 4) iX11_faultOf 15 [(0, rf g 129), (1, .int (nI t))] I2 X (qI K)) ∧ ((0 : Int32) = 0 → K (I2 129 15) I2 X) := by
        intro I2 v h2 hv e1 e2
        rw [e2]
        exact t_zero' (flt I2 v h2 hv e1)
      refine c_X11_readsHouse hT (by omega) hm hM (fun y0 => nf I' p hS (by omega) ?_ m1) (fun y0 y1 I2 h2 e2 => nf I2 (p + 1) (hS.trans h2) (by omega) ?_ e2) (fun y0 y1 y2 I2 h2 e2 => nf I2 (p + 2) (hS.trans h2) (by omega) ?_ e2) (fun y0 y1 y2 y3 I2 h2 e2 => nf I2 (p + 3) (hS.trans h2) (by omega) ?_ e2) (fun y0 y1 y2 y3 I2 h2 hM2 => t_one' ?_)
      · rw [← he, if_pos y0]
      · rw [← he, if_neg y0, if_pos y1]
      · rw [← he, if_neg y0, if_neg (fun y => y y1), if_pos y2]
      · rw [← he, if_neg y0, if_neg (fun y => y y1), if_neg (fun y => y y2), if_pos y3]
      · rw [if_neg y0, if_neg (fun y => y y1), if_neg (fun y => y y2), if_neg (fun y => y y3)] at he
        have h4 : p + 4 ≤ z := by
          refine Nat.not_lt.mp (fun c4 => ?_)
          have := h0.2.2.2.2 (p + 3) (by omega)
          rw [this] at y3
          rcases y3 with y3 | y3
          · exact absurd y3 (by decide)
          · rw [fig_1000] at y3; omega
        exact ih (p + 4) (m + 1) _ I2 (by omega) h4 (by omega) (hS.trans h2) hM2 he
    · have h32 : G p = 32 := hu.1.mp c32
      have ex : houR G z w wd (q + 1) p m hd = houR G z w wd q (p + 1) m hd := by
        show (if z ≤ p then _ else _) = _
        rw [if_neg c, if_pos h32]
      rw [ex] at he
      rw [m1, nI_1] at e12
      refine ih (p + 1) m hd I12 (by omega) (by omega) hm (fun b k hb => by rw [e12, set2_at, if_neg (by omega), hS b k hb]) ⟨?_, ?_, ?_, fun k hk => ?_, fun k hk => ?_⟩ he
      · rw [e12, set2_at, if_pos ⟨rfl, rfl⟩]
      · rw [e12, set2_at, if_neg (by omega)]; exact m2
      · rw [e12, set2_at, if_neg (by omega)]; exact m3
      · rw [e12, set2_at, if_neg (by omega)]; exact m4 k hk
      · rw [e12, set2_at, if_neg (by omega)]; exact m5 k hk
theorem lp_wndM (h0 : TM I t z G) {R : RD} (hK0 : ∀ I' p', SR3 I I' → p' ≤ 63 → I' 129 15 = nI p' → R.1 = p' → K 0 I' X) (hK1 : ∀ I' p' w' wd', SR3 I I' → p' ≤ z → w' ≠ 0 → w' ≤ 6 → MDS I' p' 0 w' hd wd' → houR G z w' wd' 61 p' 0 hd = R → K 1 I' X) : ∀ (r w p q : Nat) (wd : Nat → Nat) (I' : IT), w + r = 6 → q = r + 1 → p ≤ z → SR3 I I' → MDS I' p 0 w hd wd → wndR G z hd q p w wd = R → SR g (d + 3) iX11_readsWinds 26 [(0, rf g 129), (1, .int (nI t))] I' X (qI K) := by
  have hz := h0.2.2.1
  intro r
  induction r with
  | zero =>
    intro w p q wd I' hw hq hp hS hM he
    obtain rfl : w = 6 := by omega
    subst hq
    have hT : TM I' t z G := h0.same (fun b k hb => hS b k (by omega))
    have he' : houR G z 6 wd 61 p 0 hd = R := by
      rw [← he]
      show _ = if figN (G p) ≤ 2 ∧ 6 < 6 then _ else _
      rw [if_neg (by omega), if_neg (by decide)]
    have m3 := hM.2.2.1
    have flt : figN (G p) ≤ 9 → K 0 I' X := by
      intro y
      have hpz : p < z := Nat.not_le.mp (fun q => by rw [h0.2.2.2.2 p q, fig_1000] at y; omega)
      rw [hou_fig hpz y] at he'
      exact hK0 I' p hS (by omega) hM.1 (by rw [← he'])
    refine rg_X11_readsWinds_26 (hT.fig hM.1 (by omega) (fun y => ⟨fun q => absurd q (m9_nI (by omega)), fun _ => hT.fig hM.1 (by omega) (fun _ => ⟨fun _ => flt y, fun _ => ?_⟩) (fun q => absurd y q)⟩) (fun y => ⟨fun _ => ?_, fun q => absurd rfl q⟩))
    · rw [m3]
      exact ⟨fun q => absurd rfl q, fun _ => flt y⟩
    · rw [m3]
      exact ⟨fun q => absurd q (by decide), fun _ => hK1 I' p 6 wd hS hp (by decide) (by decide) hM he'⟩
  | succ r ih =>
    intro w p q wd I' hw hq hp hS hM he
    subst hq
    have hT : TM I' t z G := h0.same (fun b k hb => hS b k (by omega))
    obtain ⟨m1, m2, m3, m4, m5⟩ := id hM
    have e26 : nI w = 6 ↔ w = 6 := nI_eqL 6 (by omega) (by decide)
    have ex : wndR G z hd (r + 1 + 1) p w wd = if figN (G p) ≤ 2 ∧ w < 6 then wndR G z hd (r + 1) (p + 1) (w + 1) (mW wd w (figN (G p))) else if w = 0 then (p, 0, w, hd, wd) else houR G z w wd 61 p 0 hd := rfl
    rw [ex] at he
    refine rg_X11_readsWinds_26 (hT.fig m1 (by omega) (fun y => ⟨fun q => absurd q (m9_nI (by omega)), fun _ => hT.fig m1 (by omega) (fun _ => ⟨fun y2 => ?_, fun y2 => ⟨fun _ => hT.fig m1 (by omega) (fun _ => ?_) (fun q => absurd y q), fun q => ?_⟩⟩) (fun q => absurd y q)⟩) (fun y => ⟨fun _ => ?_, fun q => absurd rfl q⟩))
    · have y2' : 2 < figN (G p) := (nI_ltI (a := 2) (by decide) (by omega)).mp y2
      have hpz : p < z := Nat.not_le.mp (fun q => by rw [h0.2.2.2.2 p q, fig_1000] at y; omega)
      rw [if_neg (by omega), hou_fig hpz y] at he
      refine hK0 I' p hS (by omega) m1 ?_
      rw [← he]
      split <;> rfl
    · have y2' : figN (G p) ≤ 2 := Nat.not_lt.mp (fun q => y2 (nI_lt (a := 2) q (by omega)))
      have hpz : p < z := Nat.not_le.mp (fun q => by rw [h0.2.2.2.2 p q, fig_1000] at y; omega)
      rw [m3, nI_clamp (by omega)]
      refine ⟨vp_in_nI (by omega) (by decide), fun I11 e11 I12 e12 I13 e13 => ?_⟩
      have w11 : I11 129 17 = nI w := by rw [e11, set2_at, if_neg (by omega)]; exact m3
      rw [w11, nI_1] at e12
      have p12 : I12 129 15 = nI p := by rw [e12, set2_at, if_neg (by omega), e11, set2_at, if_neg (by omega)]; exact m1
      rw [p12, nI_1] at e13
      have at13 : ∀ b k, I13 b k = if b = 129 ∧ k = 15 then nI (p + 1) else if b = 129 ∧ k = 17 then nI (w + 1) else if b = 139 ∧ k = w then nI (figN (G p)) else I' b k := fun b k => by rw [e13, set2_at, e12, set2_at, e11, set2_at]
      rw [if_pos ⟨y2', by omega⟩] at he
      refine ih (w + 1) (p + 1) (r + 1) _ I13 (by omega) rfl (by omega) (fun b k hb => by rw [at13, if_neg (by omega), if_neg (by omega), if_neg (by omega), hS b k hb]) ⟨?_, ?_, ?_, fun k hk => absurd hk (by omega), fun k hk => ?_⟩ he
      · rw [at13, if_pos ⟨rfl, rfl⟩]
      · rw [at13, if_neg (by omega), if_neg (by omega), if_neg (by omega)]; exact m2
      · rw [at13, if_neg (by omega), if_pos ⟨rfl, rfl⟩]
      · rw [mW_at, at13, if_neg (by omega), if_neg (by omega)]
        by_cases e : k = w
        · rw [if_pos ⟨rfl, e⟩, if_pos e]
        · rw [if_neg (by omega), if_neg e]; exact m5 k (by omega)
    · rw [m3] at q
      have := e26.mp q
      omega
    · rw [if_neg (by omega)] at he
      rw [m3]
      by_cases w0 : w = 0
      · rw [if_pos w0] at he
        subst w0
        exact ⟨fun _ => hK0 I' p hS (by omega) m1 (by rw [← he]), fun q => absurd (by decide) q⟩
      · rw [if_neg w0] at he
        exact ⟨fun q => absurd q (nI_ge (a := 0) (b := w) (by omega) (by omega)), fun _ => hK1 I' p w wd hS hp w0 (by omega) hM he⟩
theorem lp_sttM (h0 : TM I t z G) {R : RD} (hK : ∀ I', SR3 I I' → (R.1 = 99 → ∃ p', MDS I' p' R.2.1 R.2.2.1 R.2.2.2.1 R.2.2.2.2) → K (ndI R.1) I' X) : ∀ (q p : Nat) (I' : IT), z + 1 ≤ p + q → p ≤ z → SR3 I I' → MDS I' p 0 0 hd wd → sttR G z hd wd q p = R → SR g (d + 4) iX11_faultOf 15 [(0, rf g 129), (1, .int (nI t))] I' X (qI K) := by
  have hz := h0.2.2.1
  have ht4 := h0.1
  intro q
  induction q with
  | zero => intro p I' hq hp; omega
  | succ q ih =>
    intro p I' hq hp hS hM he
    have hT : TM I' t z G := h0.same (fun b k hb => hS b k (by omega))
    obtain ⟨m1, m2, m3, m4, m5⟩ := id hM
    have ex : sttR G z hd wd (q + 1) p = if z ≤ p then (z, 0, 0, hd, wd) else if G p = 32 then sttR G z hd wd q (p + 1) else if G p = 118 then wndR G z hd 7 (p + 1) 0 wd else (p, 0, 0, hd, wd) := rfl
    rw [ex] at he
    refine rg_X11_faultOf_15 ?_
    rw [nI_clamp (n := t) (by omega), hT.2.1, m1, nI_leI (by omega) (by omega), m2]
    have flt : ∀ I2 v, SR3 I I2 → v ≤ 63 → R.1 = v → K (nI v) I2 X := by
      intro I2 v h2 hv e1
      have := hK I2 h2 (fun y => absurd y (by rw [e1]; omega))
      rw [e1, ndI_lt (by omega)] at this
      exact this
    refine ⟨vp_in_nI (by omega) (by decide), fun c => ⟨fun y => absurd rfl y, fun _ => ⟨vp_in_nI (by omega) (by decide), flt I' z hS (by omega) (by rw [← he, if_pos c])⟩⟩, fun c => hT.byte (p := p) rfl (by omega) (fun u hu => ⟨fun c32 => ⟨fun y => absurd m3 y, fun _ => ?_⟩, fun c32 I12 e12 => ?_⟩)⟩
    · have h32 : ¬ G p = 32 := fun y => c32 (hu.1.mpr y)
      rw [if_neg c, if_neg h32] at he
      refine en_X11_readsWinds (hT.byte m1 (by omega) (fun u hu => ⟨fun c118 I4 e4 => ?_, fun c118 => t_zero ?_⟩))
      · rw [if_pos (hu.2.1.mp c118)] at he
        rw [m1, nI_1] at e4
        have s4 : SR3 I I4 := fun b k hb => by rw [e4, set2_at, if_neg (by omega), hS b k hb]
        refine lp_wndM (I := I') (hd := hd) (R := R) hT (fun I2 p' h2 hp' e1 e2 => t_zero ?_) (fun I2 p' w' wd' h2 hp' hw0 hw6 hM2 he2 => t_one ?_) 6 0 (p + 1) 7 wd I4 rfl rfl (by omega) (fun b k hb => by rw [e4, set2_at, if_neg (by omega)]) ⟨?_, ?_, ?_, fun k hk => absurd hk (by omega), fun k hk => absurd hk (by omega)⟩ he
        · rw [e1]; exact flt I2 p' (hS.trans h2) hp' e2
        · exact lp_houM h0 hw0 hw6 hK 61 p' 0 hd I2 (by omega) hp' (by decide) (hS.trans h2) hM2 he2
        · rw [e4, set2_at, if_pos ⟨rfl, rfl⟩]
        · rw [e4, set2_at, if_neg (by omega)]; exact m2
        · rw [e4, set2_at, if_neg (by omega)]; exact m3
      · rw [if_neg (fun y => c118 (hu.2.1.mpr y))] at he
        rw [m1]
        exact flt I' p hS (by omega) (by rw [← he])
    · have h32 : G p = 32 := hu.1.mp c32
      rw [if_neg c, if_pos h32] at he
      rw [m1, nI_1] at e12
      refine ih (p + 1) I12 (by omega) (by omega) (fun b k hb => by rw [e12, set2_at, if_neg (by omega), hS b k hb]) ⟨?_, ?_, ?_, fun k hk => absurd hk (by omega), fun k hk => absurd hk (by omega)⟩ he
      · rw [e12, set2_at, if_pos ⟨rfl, rfl⟩]
      · rw [e12, set2_at, if_neg (by omega)]; exact m2
      · rw [e12, set2_at, if_neg (by omega)]; exact m3
theorem c_X11_faultOf (h0 : TM I t z G) {R : RD} (he : sttR G z z0 z0 61 0 = R) (hK : ∀ I', SR3 I I' → (R.1 = 99 → ∃ p', MDS I' p' R.2.1 R.2.2.1 R.2.2.2.1 R.2.2.2.2) → K (ndI R.1) I' X) : CI g (d + 4) iX11_faultOf [rf g 129, .int (nI t)] I X K := by
  have hz := h0.2.2.1
  refine en_X11_faultOf (fun I1 e1 I2 e2 I3 e3 => ?_)
  refine lp_sttM (hd := z0) (wd := z0) h0 hK 61 0 I3 (by omega) (Nat.zero_le _) (fun b k hb => by rw [e3, set2_at, if_neg (by omega), e2, set2_at, if_neg (by omega), e1, set2_at, if_neg (by omega)]) ⟨?_, ?_, ?_, fun k hk => absurd hk (by omega), fun k hk => absurd hk (by omega)⟩ he
  · rw [e3, set2_at, if_neg (by omega), e2, set2_at, if_neg (by omega), e1, set2_at, if_pos ⟨rfl, rfl⟩]; rfl
  · rw [e3, set2_at, if_neg (by omega), e2, set2_at, if_pos ⟨rfl, rfl⟩]; rfl
  · rw [e3, set2_at, if_pos ⟨rfl, rfl⟩]; rfl
/-- the text as both sides see it -/
theorem tx_both (h : Inv I X) (ht : t < 4) (hz : z ≤ 60) (g2 : I 134 t = nI z) : ∃ G, TX I t z G ∧ TM I t z G := by
  obtain ⟨g1, g3 | ⟨z', hz', g3, g4⟩⟩ := h.2.2.2.2.1 t ht
  · rw [g3] at g2
    exact absurd (g2 ▸ nI_pos' (n := z) (by omega)) m1_nle
  · have : z = z' := (nI_eq (by omega) (by omega)).mp (g2.symm.trans g3)
    subst this
    refine ⟨fun k => if k < z then I 135 (60 * t + k) else 1000, ⟨ht, g1.trans g2, hz, fun k hk => ?_, fun k hk => if_neg (by omega)⟩, ⟨ht, g2, hz, fun k hk => ?_, fun k hk => if_neg (by omega)⟩⟩
    · rw [g4 k hk]
      exact (if_pos hk).symm
    · exact (if_pos hk).symm
theorem op_fault {v : Int32} (h : Inv I X) : PairI g (d + 6) iX10_fault iX11_fault [.int v] I X := by
  refine en_X10_fault (c_X10_isText (fun q => t_one' ?_) (fun q => t_zero' (en_X11_fault (c_X11_isText (fun z => absurd z q) (fun _ => t_zero' ⟨rfl, h⟩)))))
  obtain ⟨t, ht, rfl⟩ := vp_in_of q (by decide)
  have tc : (nI t).toNatClampNeg = t := nI_clamp (by omega)
  rw [tc]
  refine ⟨q, c_X9_isThere (textA_mem ht) (fun c => t_one' ⟨q, ?_⟩) (fun c => t_zero' (c_X10_found 1 rfl (by decide) ?_))⟩
  · obtain ⟨g1, g2 | ⟨z, hz, g2, _⟩⟩ := h.2.2.2.2.1 t ht
    · rw [g1, g2] at c
      exact absurd m1_lt c
    · obtain ⟨G, hX, hM⟩ := tx_both h ht hz g2
      refine c_X6_read (a := 62) (f := 66) (Or.inl ⟨rfl, rfl⟩) hX (fun I1 R h1 eR _ hb => ?_)
      have hM1 : TM I1 t z G := hM.same (fun b k hb => h1 b k (by omega))
      refine en_X11_fault (c_X11_isText (fun _ => t_one' ?_) (fun z => absurd q z))
      rw [tc, hM1.2.1]
      refine ⟨q, fun _ => c_X11_faultOf hM1 eR.symm (fun I2 h2 _ => ⟨rfl, inv_out h (fun b k hb => ?_) h.2.2.1⟩), fun y => absurd (nI_pos' (by omega)) y⟩
      unfold Out at hb
      rw [h2 b k (by omega), h1 b k (by omega)]
  · obtain ⟨g1, g2 | ⟨z, hz, g2, _⟩⟩ := h.2.2.2.2.1 t ht
    · refine en_X11_fault (c_X11_isText (fun _ => t_one' ?_) (fun z => absurd q z))
      rw [tc, fndC_at (by omega), g2]
      exact ⟨q, fun y => absurd y m1_nle, fun _ => c_X11_meets 1 rfl (by decide) ⟨rfl, inv_found (by decide) h⟩⟩
    · rw [g1, g2] at c
      exact absurd c (nI_pos (by omega))
end T87

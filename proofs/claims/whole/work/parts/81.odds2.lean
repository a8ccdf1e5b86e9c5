/-! ===== odds: the model's count, the call ===== -/
section T81
variable {g : OG} {d : Nat} {I : IT} {X : XT} {K : Int32 → IT → XT → Prop} {KV : IT → XT → Prop} {KL : Int64 → IT → XT → Prop}
variable {n w : Nat} {kd nd wd mm : Nat → Nat} {F : Nat → Nat} {m f a D j z p hs lo : Nat}
theorem c_X11_parts (hj : j < 6) (hz4 : z ≤ 4) (hhs : hs < n) (hlo : lo ≤ 12) : ∀ (r p m : Nat) (F : Nat → Nat) (I : IT) (KL : Int64 → IT → XT → Prop), z = p + r → m + r ≤ 90 → I 131 j = nI z → (∀ k, k < z → I 132 (40 * j + k) = nI (mm k) ∧ mm k ≤ 36) → iE I n w kd nd wd → FM I (1 + p) F → WF n F m → (∀ I', SL p I I' → KL (lN (odN n w kd wd mm hs lo r p F)) I' X) → CL g (d + r + 4) iX11_partsOf [rf g 129, .int (nI hs), .int (nI j), .int (nI lo), .int (nI p)] I X KL := by
  intro r
  induction r with
  | zero =>
    intro p m F I KL hp hm hrz hbk he hf hw hK
    have hn := he.1.2.2
    refine en_X11_partsOf (fun x1 e1 => ?_)
    rw [show (1 : Int32) + nI p = nI (1 + p) from nI_add 1 p] at e1
    subst e1
    rw [nI_clamp (n := j) (by omega), hrz, nI_eq (by omega) (by omega)]
    have hK' := hK I Same.rf
    rw [show odN n w kd wd mm hs lo 0 p F = if F (10 + hs) = 1 then 1 else 0 from rfl] at hK'
    refine ⟨vp_in_nI hj (by decide), fun c => by omega, fun _ => c_X11_isBurning (by omega) (by omega) hf (hw.2.2.2.2 _ (by omega)) (fun c => t_one ?_) (fun c => t_zero ?_)⟩
    · rw [if_pos c] at hK'; exact hK'
    · rw [if_neg c] at hK'; exact hK'
  | succ r ih =>
    intro p m F I KL hp hm hrz hbk he hf hw hK
    have hn := he.1.2.2
    obtain ⟨hv1, hv2⟩ := hbk p (by omega)
    refine en_X11_partsOf (fun x1 e1 => ?_)
    rw [show (1 : Int32) + nI p = nI (1 + p) from nI_add 1 p] at e1
    subst e1
    rw [nI_clamp (n := j) (by omega), hrz, nI_eq (by omega) (by omega), nI_1 (1 + p), nI_1 p]
    refine ⟨vp_in_nI hj (by decide), fun _ => c_X11_rowAt hj (by omega) ?_, fun c => by omega⟩
    rw [hv1]
    -- what lies behind, for any answer of the move
    have beh : ∀ (i : Nat) (I' : IT) (K2 : Int64 → IT → XT → Prop), (i = 36 ∨ mvN n w kd wd F i) → SL p I I' → FM I' (1 + p + 1) (mvd F i) → (∀ I2, SL p I I2 → K2 (lN (odN n w kd wd mm hs lo r (p + 1) (passN n kd (mvd F i)))) I2 X) → CV g (d + r + 4) iX11_passes [rf g 129, .int (nI (1 + p + 1))] I' X (fun I11 X12 => CL g (d + r + 4) iX11_partsOf [rf g 129, .int (nI hs), .int (nI j), .int (nI lo), .int (nI (p + 1))] I11 X12 K2) := by
      intro i I' K2 hc hS hf8 hK2
      have he8 : iE I' n w kd nd wd := he.same (fun b k hb => hS b k (by omega))
      have hw8 : WF n (mvd F i) m := hw.mvd hn hc
      refine c_X11_passes (f := 1 + p + 1) (by omega) he8 hf8 hw8 (by omega) (fun I10 h10 hf10 => ?_)
      have hs10 : SL p I I10 := fun b k hb => by rw [h10 b k (by omega), hS b k hb]
      refine ih (p + 1) (m + 1) (passN n kd (mvd F i)) I10 K2 (by omega) (by omega) (by rw [hs10 131 j (by omega)]; exact hrz) (fun k hk => by rw [hs10 132 _ (by omega)]; exact hbk k hk) (he.same (fun b k hb => hs10 b k (by omega))) hf10 (hw8.pass (kd := kd) hn (by omega)) (fun I2 h2 => hK2 I2 (fun b k hb => ?_))
      rw [h2 b k (by omega), hs10 b k hb]
    have fS : ∀ I', SL p I I' → FM I' (1 + p) F := fun I' h' k hk => by rw [h' 142 _ (by omega)]; exact hf k hk
    have cS : ∀ I' I2, SL p I I' → SMf (1 + p + 1) I' I2 → SL p I I2 := fun I' I2 h1 h2 b k hb => by rw [h2 b k (by omega), h1 b k hb]
    have m36 : ∀ I', FM I' (1 + p + 1) F → FM I' (1 + p + 1) (mvd F 36) := fun I' h => h
    have hno : ¬ mvN n w kd wd F (mm p) → ∀ I', SL p I I' → KL (12 * lN (odN n w kd wd mm hs lo r (p + 1) (passN n kd (mvd F 36)))) I' X := by
      intro c I' h'
      rw [show (12 : Int64) = lN 12 from rfl, lN_mul]
      have := hK I' h'
      rw [show odN n w kd wd mm hs lo (r + 1) p F = if mvB n w kd wd F (mm p) = true then _ else _ from rfl, if_neg (fun y => c (mvB_iff.mp y))] at this
      exact this
    refine c_X11_isNone hv2 (fun e => t_one' ?_) (fun e => t_zero' ?_)
    · refine c_X11_copyTo (s := 1 + p) (t := 1 + p + 1) (by omega) (by omega) (by omega) hf (fun I5 h5 hf5 => ?_)
      refine beh 36 I5 _ (Or.inl rfl) (cS I I5 Same.rf h5) (m36 I5 hf5) (fun I2 h2 => ?_)
      exact t_zero' (hno (fun y => by have := y.1; omega) I2 h2)
    · refine c_X11_canMove (f := 1 + p) hv2 (by omega) he hf hw (by omega) (fun hc => t_one ?_) (fun hc => t_zero ?_)
      · have c3 := hc.resolve_left (by omega)
        refine c_X11_copyTo (s := 1 + p) (t := 1 + p + 1) (by omega) (by omega) (by omega) hf (fun I5 h5 hf5 => ?_)
        refine beh 36 I5 _ (Or.inl rfl) (cS I I5 Same.rf h5) (m36 I5 hf5) (fun I2 h2 => ?_)
        refine t_one' ?_
        refine c_X11_copyTo (s := 1 + p) (t := 1 + p + 1) (by omega) (by omega) (by omega) (fS I2 h2) (fun I6 h6 hf6 => ?_)
        rw [i_rem6 (by omega)]
        refine c_X11_carries (f := 1 + p + 1) (by omega) (by have := c3.2.2.2.1.1; omega) hf6 (fun I7 h7 hf7 => ?_)
        refine beh (mm p) I7 _ (Or.inr c3) (cS I2 I7 h2 (h6.trans h7)) ?_ (fun I8 h8 => ?_)
        · unfold mvd
          rw [if_neg (by omega)]
          exact hf7
        · rw [i12sub hlo, nI_l (by omega), lN_mul, lN_mul, lN_add]
          have := hK I8 h8
          rw [show odN n w kd wd mm hs lo (r + 1) p F = if mvB n w kd wd F (mm p) = true then _ else _ from rfl, if_pos (mvB_iff.mpr c3)] at this
          exact this
      · refine c_X11_copyTo (s := 1 + p) (t := 1 + p + 1) (by omega) (by omega) (by omega) hf (fun I5 h5 hf5 => ?_)
        refine beh 36 I5 _ (Or.inl rfl) (cS I I5 Same.rf h5) (m36 I5 hf5) (fun I2 h2 => ?_)
        exact t_zero' (hno (fun y => hc (Or.inr y)) I2 h2)
-- 12 to the size
theorem lp_X4_reckon {q : Nat} (hj : j < 6) (hq : q ∈ fireL) (hz : I (rowA j) 1 = nI z) (hz4 : z ≤ 4)
    (hK : ∀ X', X'.2 = X.2 → X'.1 111 5 = lN (12 ^ z) → CV g d iX1_become [rf g (olvA 0), rf g q] I X' (fun I2 X3 => CL g d iX4_casesFrom [rf g 111, .int 0] I2 X3 (fun r4 I5 X6 => ∀ X7 : XT, X7 = (set2L X6.1 111 4 r4, X6.2) → KV I5 X7))) :
    ∀ (k i : Nat) (X' : XT), i + k = z → X'.2 = X.2 → X'.1 111 5 = lN (12 ^ i) → SR g (d + 1) iX4_reckon 24 [(0, rf g 111), (1, rf g q), (3, rf g (rowA j)), (5, .int (nI i))] I X' (qV KV) := by
  intro k
  induction k with
  | zero =>
    intro i X' hi e1 e2
    obtain rfl : i = z := by omega
    refine rg_X4_reckon_24 hq (rowA_mem hj) ?_
    rw [hz]
    exact ⟨fun _ => ⟨vp_in_nI (by decide : 0 < 5) (by decide), hK X' e1 e2⟩, fun c => absurd (Int32.le_refl _) c⟩
  | succ k ih =>
    intro i X' hi e1 e2
    refine rg_X4_reckon_24 hq (rowA_mem hj) ?_
    rw [hz]
    refine ⟨fun c => absurd c (nI_ge (by omega) (by omega)), fun _ X8 e8 x9 e9 => ?_⟩
    subst e9
    rw [nI_1]
    refine ih (i + 1) X8 (by omega) (by rw [e8]; exact e1) ?_
    rw [e2, show (12 : Int64) = lN 12 from rfl, lN_mul, ← Nat.pow_succ] at e8
    rw [e8]
    exact set2L_self X'.1 111 5 _
theorem lp_X11_odds {K : Int32 → IT → XT → Prop} (hj : j < 6) (hz : I 131 j = nI z) (hz4 : z ≤ 4)
    (hK : CV g d iX11_copyTo [rf g 129, .int 0, .int 1] I X (fun I2 X3 => CL g d iX11_partsOf [rf g 129, .int (nI hs), .int (nI j), .int (nI lo), .int 0] I2 X3 (fun r4 I5 X6 => CI g d iX11_fraction [rf g 129, .long r4, .long (lN (12 ^ z))] I5 X6 K))) :
    ∀ (k i : Nat), i + k = z → SR g (d + 1) iX11_odds 78 [(0, rf g 129), (1, .int (nI hs)), (2, .int (nI j)), (3, .int (nI lo)), (4, .long (lN (12 ^ i))), (6, .int (nI i))] I X (qI K) := by
  intro k
  induction k with
  | zero =>
    intro i hi
    obtain rfl : i = z := by omega
    refine rg_X11_odds_78 ?_
    rw [nI_clamp (by omega), hz]
    exact ⟨vp_in_nI (by omega) (by decide), fun _ => hK, fun c => absurd (Int32.le_refl _) c⟩
  | succ k ih =>
    intro i hi
    refine rg_X11_odds_78 ?_
    rw [nI_clamp (by omega), hz]
    refine ⟨vp_in_nI (by omega) (by decide), fun c => absurd c (nI_ge (by omega) (by omega)), fun _ x10 e10 x11 e11 => ?_⟩
    rw [show (12 : Int64) = lN 12 from rfl, lN_mul, ← Nat.pow_succ] at e10
    subst e10; subst e11
    rw [nI_1]
    exact ih (i + 1) (by omega)
theorem op_odds {u v x : Int32} (h : Inv I X) : PairI g (d + 15) iX10_odds iX11_odds [.int u, .int v, .int x] I X := by
  obtain ⟨n, w, kd, nd, wd, D, dd, S, hE, hV, hK⟩ := h.2.2.2.2.2
  have hn := hE.1.2.2
  obtain ⟨v1, v2, v3, v4, v5, v6, v7⟩ := id hV
  have hD := v1.1
  have hw := v1.2.2.1 D (Nat.le_refl D)
  refine en_X10_odds (c_X3_has hE (fun q => t_one ?_) (fun q => t_zero (en_X11_odds (c_X11_isHouse hE (fun z => absurd z q) (fun _ => t_zero ⟨rfl, h⟩)))))
  refine c_X10_isRow (fun qr => t_one ?_) (fun qr => t_zero (en_X11_odds (c_X11_isHouse hE (fun _ => t_one (c_X11_isRow (fun z => absurd z qr) (fun _ => t_zero ⟨rfl, h⟩))) (fun z => absurd q z))))
  have bad : ¬ (0 ≤ x ∧ x ≤ 12) → CI g (d + 15) iX11_odds [rf g 129, .int u, .int v, .int x] I X (fun r I' X' => r = -1 ∧ Inv I' X') := fun c =>
    en_X11_odds (c_X11_isHouse hE (fun _ => t_one (c_X11_isRow (fun _ => t_one (c_X11_in (fun z => absurd z c) (fun _ => t_zero' ⟨rfl, h⟩))) (fun z => absurd qr z))) (fun z => absurd q z))
  refine ⟨fun c => bad (fun y => Int32.not_le.mpr c y.1), fun c1 => ⟨fun c2 => ?_, fun c => bad (fun y => c y.2)⟩⟩
  have hx : 0 ≤ x ∧ x ≤ 12 := ⟨Int32.not_lt.mp c1, c2⟩
  obtain ⟨j, hj, rfl⟩ := vp_in_of qr (by decide)
  obtain ⟨hs, hhs, rfl⟩ := vp_in_of q (by omega)
  obtain ⟨lo, hlo, rfl⟩ := vp_in_of ((inB (n := 12) (by decide)).mp hx) (by decide)
  have hlo12 : lo ≤ 12 := by omega
  have tc : (nI j).toNatClampNeg = j := nI_clamp (by omega)
  have hra : rowA j + 1 < 16 := by unfold rowA; omega
  refine ⟨qr, ?_⟩
  rw [tc]
  have mod : ∀ I' X' K', iE I' n w kd nd wd → ((0 ≤ I' 131 j → ((I' 131 j ≤ 4) → CI g (d + 14) iX11_areMoves [rf g 129, .int (nI j)] I' X' (fun r12 I13 X14 => (¬ r12 = 0 → SR g (d + 14 + 1) iX11_odds 78 [(0, rf g 129), (1, .int (nI hs)), (2, .int (nI j)), (3, .int (nI lo)), (4, .long 1), (6, .int 0)] I13 X14 (qI K')) ∧ (r12 = 0 → CI g (d + 14) iX11_meets [rf g 129, .int 3] I13 X14 K'))) ∧ (¬ (I' 131 j ≤ 4) → CI g (d + 14) iX11_meets [rf g 129, .int 5] I' X' K')) ∧ (¬ 0 ≤ I' 131 j → CI g (d + 14) iX11_meets [rf g 129, .int 1] I' X' K')) → CI g (d + 14 + 1) iX11_odds [rf g 129, .int (nI hs), .int (nI j), .int (nI lo)] I' X' K' := by
    intro I' X' K' hE' H
    refine en_X11_odds (c_X11_isHouse hE' (fun _ => t_one (c_X11_isRow (fun _ => t_one (c_X11_in (fun _ => t_one' ?_) (fun z => absurd hx z))) (fun z => absurd qr z))) (fun z => absurd q z))
    rw [tc]
    exact ⟨qr, fun c => ⟨qr, (H.1 c).1, (H.1 c).2⟩, H.2⟩
  have hEf : ∀ f, iE (fndC I f) n w kd nd wd := fun f => hE.same (fun b k hb => fndC_at (by omega))
  refine c_X7_sizeRange (lo := 0) (up := 4) hj h.2.2.2.1 (by decide) (by decide) (fun g2 => ?_) (fun z hz g2 hs => ?_) (fun z g2 _ hz hb => ?_) (fun z g1 g2 _ hz g3 hb => ?_)
  · refine ⟨fun c => absurd c (by decide), fun _ => c_X10_found 1 rfl (by decide) (mod _ _ _ (hEf 1) ?_)⟩
    rw [fndC_at (by omega), g2]
    exact ⟨fun c => absurd c m1_nle, fun _ => c_X11_meets 1 rfl (by decide) ⟨rfl, inv_found (by decide) h⟩⟩
  · refine ⟨fun c => absurd c (by decide), fun _ => c_X10_found 5 rfl (by decide) (mod _ _ _ (hEf 5) ?_)⟩
    rw [fndC_at (by omega), g2]
    exact ⟨fun _ => ⟨fun c => absurd c (nI_ge (a := 4) (by omega) (by omega)), fun _ => c_X11_meets 5 rfl (by decide) ⟨rfl, inv_found (by decide) h⟩⟩, fun c => absurd (nI_pos' (by omega)) c⟩
  · refine ⟨fun c => absurd c (by decide), fun _ => c_X10_found 3 rfl (by decide) (mod _ _ _ (hEf 3) ?_)⟩
    have g2' : fndC I 3 131 j = nI z := by rw [fndC_at (by omega)]; exact g2
    rw [g2']
    refine ⟨fun _ => ⟨fun _ => c_X11_areMoves hj g2' (by omega) (fun c => ?_) (fun _ => t_zero' (c_X11_meets 3 rfl (by decide) ⟨rfl, inv_found (by decide) h⟩)), fun c => absurd (nI_le (b := 4) hz (by decide)) c⟩, fun c => absurd (nI_pos' (by omega)) c⟩
    obtain ⟨k, hk1, hk2⟩ := hb
    have := c k hk1
    rw [fndC_at (by omega)] at this
    exact absurd this hk2
  · have hmv : ∀ k, k < z → I 132 (40 * j + k) = nI (I 132 (40 * j + k)).toNatClampNeg ∧ (I 132 (40 * j + k)).toNatClampNeg ≤ 36 := by
      intro k hk
      obtain ⟨u, hu, e⟩ := vp_in_of ((inB (n := 36) (by decide)).mp (hb k hk)) (by decide)
      rw [e, nI_clamp (by omega)]
      exact ⟨rfl, by omega⟩
    generalize hmm : (fun k => (I 132 (40 * j + k)).toNatClampNeg) = mm at *
    have hmv' : ∀ k, k < z → I 132 (40 * j + k) = nI (mm k) ∧ mm k ≤ 36 := by
      intro k hk
      rw [← hmm]
      exact hmv k hk
    have b1 := od_le (n := n) (w := w) (kd := kd) (wd := wd) (mm := mm) (hs := hs) hlo12 z 0 (S D)
    have b2 : 12 ^ z ≤ 12 ^ 4 := Nat.pow_le_pow_right (by decide) hz
    have b3 : (12 : Nat) ^ 4 = 20736 := by decide
    have b4 : 0 < 12 ^ z := Nat.pow_pos (by decide)
    generalize hod : odN n w kd wd mm hs lo z 0 (S D) = od at b1
    generalize htw : 12 ^ z = tw at b1 b2 b4
    have hg1 : 0 < Nat.gcd od tw := Nat.gcd_pos_of_pos_right _ b4
    refine t_zero ⟨qr, en_X4_reckon (p1 := 33) (by decide) (rowA_mem hj) (fun X1 e1 I2 e2 I3 e3 X4 e4 => ?_)⟩
    have hs3 : ∀ b k, b ≠ 111 → I3 b k = I b k := fun b k hb => by rw [e3, set2_at, if_neg (by omega), e2, set2_at, if_neg (by omega)]
    have hX4 : X4.2.2 = rowA j := by rw [e4, e1]
    refine lp_X4_reckon (I := I3) (X := X4) (z := z) hj (by decide) (by rw [hs3 _ 1 (by omega)]; exact g1) hz (fun X' ex ex5 => ?_) z 0 X4 (by omega) rfl (by rw [e4]; exact set2L_self X1.1 111 5 1)
    rw [htw] at ex5
    refine c_X1_become (a := olvA 0) (p := 33) (by decide) (by decide) (by decide) hn (v2.2.2.2.same (fun b k hb => hs3 b k (by omega))) hw.2.2.1 hw.2.2.2.1 (fun I5 h5 hf5 => ?_)
    have h113 : olvA 0 = 113 := rfl
    have hs5 : ∀ b k, b ≠ 111 → ¬ (113 ≤ b ∧ b ≤ 115) → I5 b k = I b k := fun b k hb hb2 => by rw [h5 b k (by omega), hs3 b k hb]
    have hod5 : OD j z hs lo mm I5 := by
      refine ⟨by rw [hs5 _ 1 (by omega) (by omega)]; exact g1, fun k hk => by rw [hs5 _ k (by omega) (by omega), g3 k hk]; exact hmv' k hk, ?_, ?_⟩
      · rw [h5 111 2 (by omega), e3, set2_at, if_neg (by omega), e2, set2_at, if_pos ⟨rfl, rfl⟩]
      · rw [h5 111 3 (by omega), e3, set2_at, if_pos ⟨rfl, rfl⟩]
    have hd1 : d + 13 = (d + (8 - 2 * z)) + 2 * z + 5 := by omega
    have hd2 : d + 14 = (d + (10 - z)) + z + 4 := by omega
    rw [hd1]
    refine c_X4_cases (X := X') (mm := mm) hj (by rw [ex]; exact hX4) hz hhs hlo12 z 0 D (S D) I5 _ (by omega) (by omega) hod5 (hE.same (fun b k hb => hs5 b k (by omega) (by omega))) hf5 hw (fun I6 h6 X7 e7 => ?_)
    rw [hod] at e7
    have e74 : X7.1 111 4 = lN od := by rw [e7]; exact set2L_self X'.1 111 4 _
    have e75 : X7.1 111 5 = lN tw := by rw [e7]; exact (set2L_off X'.1 (a := 111) (j := 4) (b := 111) (k := 5) (lN od) (by omega)).trans ex5
    rw [e74, e75]
    refine c_X10_tell (by omega) (by omega) hg1 ?_
    have hs6 : ∀ b k, ¬ (111 ≤ b ∧ b ≤ 127) → I6 b k = I b k := fun b k hb => by rw [h6 b k (by omega), hs5 b k (by omega) (by omega)]
    have hE6 : iE I6 n w kd nd wd := hE.same (fun b k hb => hs6 b k (by omega))
    have hF6 : FM I6 0 (S D) := FM0.mpr (fun k hk => by rw [hs6 142 k (by omega)]; exact v6 k hk)
    have g6 : I6 131 j = nI z := by rw [hs6 131 j (by omega)]; exact g2
    refine mod _ _ _ hE6 ?_
    rw [g6]
    refine ⟨fun _ => ⟨fun _ => c_X11_areMoves hj g6 (by omega) (fun _ => t_one' ?_) (fun c => ?_), fun c => absurd (nI_le (b := 4) hz (by decide)) c⟩, fun c => absurd (nI_pos' (by omega)) c⟩
    · refine lp_X11_odds (z := z) hj g6 hz ?_ z 0 (by omega)
      refine c_X11_copyTo (s := 0) (t := 1) (by decide) (by decide) (by decide) hF6 (fun I8 h8 hF8 => ?_)
      rw [hd2]
      refine c_X11_parts (mm := mm) hj hz hhs hlo12 z 0 D (S D) I8 _ (by omega) (by omega) (by rw [h8 131 j (by omega)]; exact g6) (fun k hk => by rw [h8 132 _ (by omega), hs6 132 _ (by omega)]; exact hmv' k hk) (hE6.frame h8) hF8 hw (fun I9 h9 => ?_)
      rw [hod, htw]
      refine c_X11_fraction (by omega) (by omega) hg1 ⟨rfl, inv_out h (fun b k hb => ?_) iU_told⟩
      unfold Out at hb
      rw [h9 b k (by omega), h8 b k (by omega), hs6 b k (by omega)]
    · obtain ⟨k, hk1, hk2⟩ := c
      rw [hs6 132 _ (by omega)] at hk2
      exact absurd (hb k hk1) hk2
end T81

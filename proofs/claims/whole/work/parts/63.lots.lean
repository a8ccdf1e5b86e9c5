/-! ===== lots ===== -/
def actC (n : Nat) (kd : Nat → Nat) (c : Nat × (Nat → Nat) × (Nat → Nat → Nat)) (e : Nat) : Nat × (Nat → Nat) × (Nat → Nat → Nat) := (c.1 + 1, mW c.2.1 c.1 e, SU c.2.2 c.1 (actN n kd (c.2.2 c.1) e))
def lotC (n w : Nat) (kd wd : Nat → Nat) (c : Nat × (Nat → Nat) × (Nat → Nat → Nat)) (x : Nat) : Nat × (Nat → Nat) × (Nat → Nat → Nat) := if mvB n w kd wd (c.2.2 c.1) (6 * (x % n) + x / 16 % n) then actC n kd c (6 * (x % n) + x / 16 % n) else c
def nextL (x : Nat) : Nat := x * 48271 % 2147483647
def lotsC (n w : Nat) (kd wd : Nat → Nat) : Nat → Nat → Nat × (Nat → Nat) × (Nat → Nat → Nat) → Nat × (Nat → Nat) × (Nat → Nat → Nat)
  | 0, _, c => c
  | q + 1, x, c => lotsC n w kd wd q (nextL x) (actC n kd (lotC n w kd wd c (nextL x)) 36)
section T63
variable {g : OG} {d : Nat} {I : IT} {X : XT} {K : Int32 → IT → XT → Prop} {KV : IT → XT → Prop}
variable {n w : Nat} {kd nd wd : Nat → Nat} {F : Nat → Nat} {m f a D : Nat} {dd : Nat → Nat} {S : Nat → Nat → Nat}
variable {c cN : Nat × (Nat → Nat) × (Nat → Nat → Nat)}
theorem nextL_lt (x : Nat) : nextL x < 2147483647 := Nat.mod_lt _ (by decide)
theorem nextL_c {x : Nat} (hx : x < 2147483647) : (((nI x).toInt64 * 48271) - ((nI x).toInt64 * 48271) / 2147483647 * 2147483647).toInt32 = nI (nextL x) := by
  rw [nI_l (by omega), show (48271 : Int64) = lN 48271 from rfl, lN_mul, show (2147483647 : Int64) = lN 2147483647 from rfl, pk_lRem (by omega) (by decide) (by decide), lN_i]
  rfl
theorem nextL_m {x : Nat} (hx : x < 2147483647) : (48271 * lN x) - (48271 * lN x) / 2147483647 * 2147483647 = lN (nextL x) := by
  rw [show (48271 : Int64) = lN 48271 from rfl, lN_mul, show (2147483647 : Int64) = lN 2147483647 from rfl, pk_lRem (by omega) (by decide) (by decide), Nat.mul_comm]
  rfl
theorem WF.up (h : WF n F m) : WF n F (m + 1) := ⟨h.1, Nat.le_succ_of_le h.2.1, h.2.2⟩
theorem act36 : actN n kd F 36 = passN n kd F := rfl
theorem act_mv {mv : Nat} (h : mv < 36) : actN n kd F mv = carryN F (mv % 6) := by
  unfold actN
  rw [if_neg (by omega), if_neg (by omega)]
theorem iC.hour (hn : n ≤ 5) (h : iC n kd c.1 c.2.1 c.2.2) (hD : c.1 < 40) : iC n kd (actC n kd c 36).1 (actC n kd c 36).2.1 (actC n kd c 36).2.2 :=
  h.step hD (Or.inl rfl) (by rw [act36]; exact (h.2.2.1 c.1 (Nat.le_refl _)).pass hn (by omega))
theorem iC.mv {mv : Nat} (hn : n ≤ 5) (h : iC n kd c.1 c.2.1 c.2.2) (hD : c.1 < 40) (q : mvN n w kd wd (c.2.2 c.1) mv) : iC n kd (actC n kd c mv).1 (actC n kd c mv).2.1 (actC n kd c mv).2.2 :=
  h.step hD (Or.inr (Or.inr ⟨q.1, q.2.2.2.1.1⟩)) (by rw [act_mv q.1]; exact ((h.2.2.1 c.1 (Nat.le_refl _)).carry hn q.2.2.2.1.1 q.2.2.2.2.2.1).up)
def SC (I I' : IT) : Prop := Same (fun b k => (b = 28 ∧ k = 3) ∨ b = 29 ∨ (33 ≤ b ∧ b ≤ 35)) I I'
theorem iE.sc {I' : IT} (h : iE I n w kd nd wd) (hs : SC I I') : iE I' n w kd nd wd := h.same (fun b k hb => hs b k (by omega))
theorem mv_hk {h k : Nat} (hn : n ≤ 5) (hh : h < n) (hk : k < n) : mvN n w kd wd F (6 * h + k) ↔ canN n w kd wd F h k := by
  unfold mvN
  rw [show (6 * h + k) / 6 = h by omega, show (6 * h + k) % 6 = k by omega]
  exact ⟨fun z => z.2, fun z => ⟨by omega, z⟩⟩
theorem c_X10_carryByLot {x : Nat} (hx : x < 2147483647) (hn0 : 0 < n) (he : iE I n w kd nd wd) (hc : iC n kd c.1 c.2.1 c.2.2) (hcc : iCC I 28 n c.1 c.2.1 c.2.2) (hD : c.1 < 40)
    (hK : ∀ I', SC I I' → iC n kd (lotC n w kd wd c x).1 (lotC n w kd wd c x).2.1 (lotC n w kd wd c x).2.2 → iCC I' 28 n (lotC n w kd wd c x).1 (lotC n w kd wd c x).2.1 (lotC n w kd wd c x).2.2 → KV I' X) : CV g (d + 6) iX10_carryByLot [rf g 1, .int (nI x)] I X KV := by
  have hn := he.1.2.2
  have hh : x % n < n := Nat.mod_lt _ hn0
  have hk : x / 16 % n < n := Nat.mod_lt _ hn0
  have hw := hc.2.2.1 c.1 (Nat.le_refl _)
  refine en_X10_carryByLot (c_X3_isEmpty he (fun q => by omega) (fun _ => t_zero ?_))
  rw [he.1.1, show (16 : Int32) = nI 16 from rfl, pk_div (a := x) (d := 16) (by omega) (by decide) (by decide), pk_rem (a := x) (by omega) hn0 (by omega), pk_rem (a := x / 16) (by omega) hn0 (by omega)]
  have h0 : ¬ nI n = 0 := nI_ne0 hn0 (by omega)
  refine ⟨h0, fun x5 e5 => ⟨h0, fun x7 e7 => ?_⟩⟩
  subst e5; subst e7
  refine c_X1_canCarry (a := 33) (by omega) (by omega) (by decide) (by decide) he hcc.2.2.2 hw (by omega) (fun q => t_one ?_) (fun q => t_zero ?_)
  · have q2 := (mv_hk hn hh hk).mpr q
    rw [show (6 : Int32) = nI 6 from rfl, pk_mul, nI_add]
    have e : lotC n w kd wd c x = actC n kd c (6 * (x % n) + x / 16 % n) := if_pos (mvB_iff.mpr q2)
    refine c_X0_act hD he hcc hw (Or.inr (Or.inr ⟨q2.1, q2.2.2.2.1.1⟩)) (fun I' h' cc' => hK I' h' ?_ ?_)
    · rw [e]; exact hc.mv hn hD q2
    · rw [e]; exact cc'
  · have q2 := fun z => q ((mv_hk hn hh hk).mp z)
    have e : lotC n w kd wd c x = c := if_neg (fun z => q2 (mvB_iff.mp z))
    exact hK I Same.rf (by rw [e]; exact hc) (by rw [e]; exact hcc)
theorem lotC_le {x : Nat} : (lotC n w kd wd c x).1 ≤ c.1 + 1 := by
  unfold lotC
  split
  · exact Nat.le_refl _
  · exact Nat.le_succ _
theorem lp_X10_lots {N : Nat} (hN : N ≤ 10) (hn0 : 0 < n) (I0 : IT) (he0 : iE I0 n w kd nd wd)
    (hK : ∀ I', SC I0 I' → iC n kd cN.1 cN.2.1 cN.2.2 → iCC I' 28 n cN.1 cN.2.1 cN.2.2 → K (nI (pop (bset (cN.2.2 cN.1) n))) I' X) : ∀ (q i x : Nat) (c : Nat × (Nat → Nat) × (Nat → Nat → Nat)) (I : IT), i + q = N → x < 2147483647 → c.1 + 2 * q ≤ 40 → lotsC n w kd wd q x c = cN → SC I0 I → iC n kd c.1 c.2.1 c.2.2 → iCC I 28 n c.1 c.2.1 c.2.2 → SR g (d + 7) iX10_lots 59 [(0, rf g 1), (1, .int (nI N)), (3, .int (nI x)), (4, .int (nI i))] I X (qI K) := by
  have hn := he0.1.2.2
  intro q
  induction q with
  | zero =>
    intro i x c I hi hx hD hl hS hc hcc
    obtain rfl : i = N := by omega
    have hl' : c = cN := hl
    subst hl'
    refine rg_X10_lots_59 ⟨fun _ => c_X1_alight (a := 33) (by decide) hn hcc.2.2.2 (hK I hS hc hcc), fun z => absurd (Int32.le_refl _) z⟩
  | succ q ih =>
    intro i x c I hi hx hD hl hS hc hcc
    have he := he0.sc hS
    refine rg_X10_lots_59 ⟨fun z => absurd z (nI_ge (by omega) (by omega)), fun _ x4 e4 => ?_⟩
    rw [nextL_c hx] at e4
    subst e4
    have hle := lotC_le (n := n) (w := w) (kd := kd) (wd := wd) (c := c) (x := nextL x)
    refine c_X10_carryByLot (c := c) (nextL_lt x) hn0 he hc hcc (by omega) (fun I1 h1 c1 cc1 => ?_)
    refine c_X0_act (e := 36) (by omega) (he.sc h1) cc1 (c1.2.2.1 _ (Nat.le_refl _)) (Or.inl rfl) (fun I2 h2 cc2 x9 e9 => ?_)
    subst e9
    rw [nI_1]
    exact ih (i + 1) (nextL x) _ I2 (by omega) (nextL_lt x) (show (lotC n w kd wd c (nextL x)).1 + 1 + 2 * q ≤ 40 by omega) hl ((hS.trans h1).trans h2) (c1.hour hn (by omega)) cc2
-- the model
def SMd (I I' : IT) : Prop := Same (fun b k => (b = 129 ∧ k = 22) ∨ (b = 142 ∧ k < 18) ∨ b = 143) I I'
def iM (I : IT) (c : Nat × (Nat → Nat) × (Nat → Nat → Nat)) : Prop := I 129 22 = nI c.1 ∧ FM I 0 (c.2.2 c.1) ∧ ∀ i, i < c.1 → ∀ k, k < 18 → I 143 (18 * i + k) = nI (c.2.2 i k)
theorem iE.sm {I' : IT} (h : iE I n w kd nd wd) (hs : SMd I I') : iE I' n w kd nd wd := h.same (fun b k hb => hs b k (by omega))
theorem c_deed {e : Nat} (hD : c.1 < 40) (hm : iM I c) (hK : ∀ I1, SMd I I1 → FM I1 0 (c.2.2 c.1) → (∀ I2, SMf 0 I1 I2 → FM I2 0 (actN n kd (c.2.2 c.1) e) → SMd I I2 ∧ iM I2 (actC n kd c e)) → KV I1 X) : CV g (d + 1) iX11_remember [rf g 129] I X KV := by
  obtain ⟨m1, m2, m3⟩ := hm
  refine c_X11_remember hD m1 (fun I1 h1 r1 r2 => hK I1 (h1.weak (fun b k hb => by omega)) ?_ (fun I2 h2 hf2 => ⟨?_, ?_, ?_, fun i hi k hk => ?_⟩))
  · exact FM0.mpr (fun k hk => by rw [h1 142 k (by omega)]; exact FM0.mp m2 k hk)
  · exact (h1.weak (fun b k hb => by omega)).trans (h2.weak (fun b k hb => by omega))
  · rw [h2 129 22 (by omega)]; exact r1
  · show FM I2 0 (SU c.2.2 c.1 (actN n kd (c.2.2 c.1) e) (c.1 + 1))
    rw [SU_eq]; exact hf2
  · show I2 143 (18 * i + k) = nI (SU c.2.2 c.1 (actN n kd (c.2.2 c.1) e) i k)
    have hi' : i < c.1 + 1 := hi
    rw [h2 143 _ (by omega), SU_ne _ _ _ (by omega)]
    by_cases q : i = c.1
    · subst q
      rw [r2 k hk]; exact FM0.mp m2 k hk
    · rw [h1 143 _ (by omega)]; exact m3 i (by omega) k hk
theorem c_hourM (hn0 : 0 < n) (he : iE I n w kd nd wd) (hc : iC n kd c.1 c.2.1 c.2.2) (hD : c.1 < 40) (hm : iM I c) (hK : ∀ I2, SMd I I2 → iM I2 (actC n kd c 36) → KV I2 X) : CV g (d + 4) iX11_remember [rf g 129] I X (fun I1 X1 => CV g (d + 4) iX11_passes [rf g 129, .int 0] I1 X1 KV) := by
  refine c_deed (n := n) (kd := kd) (e := 36) hD hm (fun I1 h1 hf1 k1 => ?_)
  refine c_X11_passes (f := 0) (by decide) (he.sm h1) hf1 (hc.2.2.1 c.1 (Nat.le_refl _)) (by omega) (fun I2 h2 hf2 => ?_)
  obtain ⟨a1, a2⟩ := k1 I2 h2 hf2
  exact hK I2 a1 a2
theorem lp_X11_lots {N : Nat} (hN : N ≤ 10) (hn0 : 0 < n) (I0 : IT) (he0 : iE I0 n w kd nd wd)
    (hK : ∀ I', SMd I0 I' → iM I' cN → K (nI (pop (bset (cN.2.2 cN.1) n))) I' X) : ∀ (q i x : Nat) (c : Nat × (Nat → Nat) × (Nat → Nat → Nat)) (I : IT), i + q = N → x < 2147483647 → c.1 + 2 * q ≤ 40 → lotsC n w kd wd q x c = cN → SMd I0 I → iC n kd c.1 c.2.1 c.2.2 → iM I c → SR g (d + 5) iX11_lots 55 [(0, rf g 129), (1, .int (nI N)), (3, .long (lN x)), (5, .int (nI i))] I X (qI K) := by
  have hn := he0.1.2.2
  intro q
  induction q with
  | zero =>
    intro i x c I hi hx hD hl hS hc hm
    obtain rfl : i = N := by omega
    have hl' : c = cN := hl
    subst hl'
    have h32 : bset (c.2.2 c.1) n < 32 := Nat.lt_of_lt_of_le (bset_lt _ n) (Nat.pow_le_pow_right (n := 2) (by decide) hn)
    refine rg_X11_lots_55 ⟨fun _ => c_X11_burning (f := 0) (by decide) (he0.sm hS) hm.2.1 (hc.2.2.1 c.1 (Nat.le_refl _)) (c_X11_bits h32 (hK I hS hm)), fun z => absurd (Int32.le_refl _) z⟩
  | succ q ih =>
    intro i x c I hi hx hD hl hS hc hm
    have he := he0.sm hS
    have hxl := nextL_lt x
    have hh : nextL x % n < n := Nat.mod_lt _ hn0
    have hk : nextL x / 16 % n < n := Nat.mod_lt _ hn0
    have hw := hc.2.2.1 c.1 (Nat.le_refl _)
    refine rg_X11_lots_55 ⟨fun z => absurd z (nI_ge (by omega) (by omega)), fun _ x7 e7 => ?_⟩
    rw [nextL_m hx] at e7
    subst e7
    rw [he.1.2.1, nI_l (by omega), show (16 : Int64) = lN 16 from rfl, pk_lDiv (a := nextL x) (b := 16) (by omega) (by decide) (by decide), pk_lRem (a := nextL x) (by omega) hn0 (by omega), pk_lRem (a := nextL x / 16) (by omega) hn0 (by omega), lN_i, lN_i]
    have h0 : ¬ lN n = 0 := fun z => by
      have := (pk_lEQ (a := n) (b := 0) (by omega) (by decide)).mp z
      omega
    refine ⟨h0, fun x9 e9 => ⟨h0, fun x11 e11 => ?_⟩⟩
    subst e9; subst e11
    refine c_X11_canCarry (f := 0) (by decide) hh hk he hm.2.1 hw (by omega) (fun z => t_one ?_) (fun z => t_zero ?_)
    · have q2 := (mv_hk hn hh hk).mpr z
      have e : lotC n w kd wd c (nextL x) = actC n kd c (6 * (nextL x % n) + nextL x / 16 % n) := if_pos (mvB_iff.mpr q2)
      refine c_deed (n := n) (kd := kd) (e := 6 * (nextL x % n) + nextL x / 16 % n) (by omega) hm (fun I1 h1 hf1 k1 => ?_)
      refine c_X11_carries (f := 0) (by decide) (by omega) hf1 (fun I2 h2 hf2 => ?_)
      obtain ⟨a1, a2⟩ := k1 I2 h2 (by rw [act_mv q2.1, show (6 * (nextL x % n) + nextL x / 16 % n) % 6 = nextL x / 16 % n by omega]; exact hf2)
      have hc2 := hc.mv hn (by omega) q2
      refine c_hourM hn0 (he.sm a1) hc2 (show c.1 + 1 < 40 by omega) a2 (fun I3 h3 m3 x28 e28 => ?_)
      subst e28
      rw [nI_1]
      refine ih (i + 1) (nextL x) _ I3 (by omega) hxl ?_ (show lotsC n w kd wd q (nextL x) (actC n kd (actC n kd c _) 36) = cN by rw [← e]; exact hl) ((hS.trans a1).trans h3) (hc2.hour hn (show c.1 + 1 < 40 by omega)) m3
      show c.1 + 1 + 1 + 2 * q ≤ 40
      omega
    · have q2 := fun y => z ((mv_hk hn hh hk).mp y)
      have e : lotC n w kd wd c (nextL x) = c := if_neg (fun z => q2 (mvB_iff.mp z))
      refine c_hourM hn0 he hc (by omega) hm (fun I3 h3 m3 x28 e28 => ?_)
      subst e28
      rw [nI_1]
      refine ih (i + 1) (nextL x) _ I3 (by omega) hxl ?_ (show lotsC n w kd wd q (nextL x) (actC n kd c 36) = cN by
        have := hl
        unfold lotsC at this
        rw [e] at this
        exact this) (hS.trans h3) (hc.hour hn (by omega)) m3
      show c.1 + 1 + 2 * q ≤ 40
      omega
theorem actC_0 {e : Nat} : (actC n kd c e).2.2 0 = c.2.2 0 := SU_ne c.2.2 c.1 (actN n kd (c.2.2 c.1) e) (Nat.zero_le c.1)
theorem lotsC_0 : ∀ (q x : Nat) (c : Nat × (Nat → Nat) × (Nat → Nat → Nat)), (lotsC n w kd wd q x c).2.2 0 = c.2.2 0
  | 0, _, _ => rfl
  | q + 1, x, c => by
    show (lotsC n w kd wd q (nextL x) (actC n kd (lotC n w kd wd c (nextL x)) 36)).2.2 0 = c.2.2 0
    rw [lotsC_0 q, actC_0]
    unfold lotC
    split
    · exact actC_0
    · rfl
theorem op_lots {u v : Int32} (h : Inv I X) : PairI g (d + 7) iX10_lots iX11_lots [.int u, .int v] I X := by
  obtain ⟨n, w, kd, nd, wd, D, dd, S, hE, hV, hK⟩ := h.2.2.2.2.2
  have hn := hE.1.2.2
  obtain ⟨v1, v2, v3, v4, v5, v6, v7⟩ := id hV
  have hD := v1.1
  have e10 : nI n = 0 ↔ n = 0 := nI_eqL 0 (by omega) (by decide)
  by_cases hu : (1 : Int32) ≤ u ∧ u ≤ 10
  · by_cases hv : (1 : Int32) ≤ v ∧ v ≤ 2147483646
    · obtain ⟨N, hN, rfl⟩ := vp_in_of ((inB (n := 10) (by decide)).mp ⟨Int32.le_trans (by decide) hu.1, hu.2⟩) (by decide)
      obtain ⟨x, hx, rfl⟩ := nI_of2 (x := v) (M := 2147483646) (n := 2147483646) (by decide) (Int32.not_lt.mpr (Int32.le_trans (by decide) hv.1)) hv.2
      have e2 : (2 : Int32) * nI N = nI (2 * N) := by rw [show (2 : Int32) = nI 2 from rfl, pk_mul]
      refine en_X10_lots ⟨fun c => absurd hu.1 (Int32.not_le.mpr c), fun _ => ⟨fun c => absurd hu.2 (Int32.not_le.mpr c), fun _ => ⟨fun c => absurd hv.1 (Int32.not_le.mpr c), fun _ => ⟨fun _ => ?_, fun c => absurd (nI_lt (b := 2147483647) (by omega) (by decide)) c⟩⟩⟩⟩
      refine c_X3_isEmpty hE (fun q0 => t_one ?_) (fun q0 => t_zero ?_)
      · refine en_X11_lots (c_X11_in (fun _ => t_one (c_X11_in (fun _ => t_one' ?_) (fun z => absurd hv z))) (fun z => absurd hu z))
        rw [hE.1.2.1, e10]
        exact ⟨fun z => absurd q0 z, fun _ => ⟨rfl, h⟩⟩
      · rw [e2]
        refine c_X0_hasRoom (more := 2 * N) (by omega) v2.1 hD (fun q2 => t_one' ?_) (fun q2 => t_zero' ?_)
        · refine lp_X10_lots (N := N) (cN := lotsC n w kd wd N x (D, dd, S)) (by omega) q0 I hE (fun I1 h1 c1 cc1 => ?_) N 0 x (D, dd, S) I (by omega) (by omega) (by show D + 2 * N ≤ 40; omega) rfl Same.rf v1 v2
          have hE1 := hE.sc h1
          refine en_X11_lots (c_X11_in (fun _ => t_one (c_X11_in (fun _ => t_one' ?_) (fun z => absurd hv z))) (fun z => absurd hu z))
          rw [hE1.1.2.1, e10, h1 129 22 (by omega), v4, e2, nI_add, show (40 : Int32) = nI 40 from rfl, nI_leI (by omega) (by decide), nI_l (by omega)]
          refine ⟨fun _ => ⟨fun _ x7 e7 => ?_, fun z => absurd q2 z⟩, fun z => by omega⟩
          subst e7
          refine lp_X11_lots (N := N) (cN := lotsC n w kd wd N x (D, dd, S)) (by omega) q0 I1 hE1 (fun I2 h2 m2 => ⟨rfl, ?_⟩) N 0 x (D, dd, S) I1 (by omega) (by omega) (by show D + 2 * N ≤ 40; omega) rfl Same.rf v1 ⟨by rw [h1 129 22 (by omega)]; exact v4, FM0.mpr (fun k hk => by rw [h1 142 k (by omega)]; exact v6 k hk), fun i hi k hk => by rw [h1 143 _ (by omega)]; exact v7 i hi k hk⟩
          have hs : ∀ b k, ¬ ((b = 28 ∧ k = 3) ∨ b = 29 ∨ (33 ≤ b ∧ b ≤ 35) ∨ (b = 129 ∧ k = 22) ∨ (b = 142 ∧ k < 18) ∨ b = 143) → I2 b k = I b k := fun b k hb => by rw [h2 b k (by omega), h1 b k (by omega)]
          refine ⟨h.1.same (fun b k hb => hs b k (by omega)), h.2.1.same (fun b k hb => hs b k (by omega)), h.2.2.1, h.2.2.2.1.same (fun b k hb => hs b k (by omega)), h.2.2.2.2.1.same (fun b k hb => hs b k (by omega)), n, w, kd, nd, wd, _, _, _, hE.same (fun b k hb => hs b k (by omega)), ⟨c1, cc1.same (fun b k hb => h2 b k (by omega)), fun z => by rw [hs 28 4 (by omega)]; exact v3 z, m2.1, fun k hk => ?_, FM0.mp m2.2.1, m2.2.2⟩, hK.same (fun b k hb => hs b k (by omega))⟩
          rw [lotsC_0, hs 141 k (by omega)]
          exact v5 k hk
        · refine en_X11_lots (c_X11_in (fun _ => t_one (c_X11_in (fun _ => t_one' ?_) (fun z => absurd hv z))) (fun z => absurd hu z))
          rw [hE.1.2.1, e10, v4, e2, nI_add, show (40 : Int32) = nI 40 from rfl, nI_leI (by omega) (by decide)]
          exact ⟨fun _ => ⟨fun z => absurd z q2, fun _ => ⟨rfl, h⟩⟩, fun z => by omega⟩
    · have hm : CI g (d + 7) iX11_lots [rf g 129, .int u, .int v] I X (fun r' I2 X2 => r' = -1 ∧ Inv I2 X2) :=
        en_X11_lots (c_X11_in (fun _ => t_one (c_X11_in (fun z => absurd z hv) (fun _ => t_zero' ⟨rfl, h⟩))) (fun z => absurd hu z))
      refine en_X10_lots ⟨fun _ => hm, fun c => ⟨fun _ => hm, fun c2 => ⟨fun _ => hm, fun c3 => ⟨fun c4 => ?_, fun _ => hm⟩⟩⟩⟩
      refine absurd ⟨Int32.not_lt.mp c3, ?_⟩ hv
      rw [i_lt] at c4
      rw [i_le]
      have a1 : (2147483647 : Int32).toInt = 2147483647 := by decide
      have a2 : (2147483646 : Int32).toInt = 2147483646 := by decide
      omega
  · have hm : CI g (d + 7) iX11_lots [rf g 129, .int u, .int v] I X (fun r' I2 X2 => r' = -1 ∧ Inv I2 X2) :=
      en_X11_lots (c_X11_in (fun z => absurd z hu) (fun _ => t_zero ⟨rfl, h⟩))
    refine en_X10_lots ⟨fun _ => hm, fun c => ⟨fun _ => hm, fun c2 => ?_⟩⟩
    exact absurd ⟨Int32.not_lt.mp c, Int32.not_lt.mp c2⟩ hu
end T63

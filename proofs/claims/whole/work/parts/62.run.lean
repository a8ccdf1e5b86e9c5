/-! ===== run ===== -/
/-- places that no call looks at before it writes them -/
def Out (b k : Nat) : Prop := (b = 142 ∧ 18 ≤ k) ∨ (61 ≤ b ∧ b ≤ 127) ∨ b = 133 ∨ b = 139 ∨ b = 140 ∨ b = 149 ∨ b = 150 ∨ (b = 129 ∧ ((15 ≤ k ∧ k ≤ 17) ∨ (31 ≤ k ∧ k ≤ 36)))
def mvB (n w : Nat) (kd wd : Nat → Nat) (F : Nat → Nat) (mv : Nat) : Bool := decide (mv < 36 ∧ (F 17 = 0 ∧ (mv / 6 < n ∧ F (10 + mv / 6) = 1) ∧ (mv % 6 < n ∧ ¬ F (10 + mv % 6) = 1) ∧ adiff (mv / 6) (mv % 6) + wd (F 15 % w) ≤ 3 ∧ (0 < F (mv % 6) ∧ F (5 + mv % 6) ≤ damp (kd (mv % 6)))))
def movedN (n w : Nat) (kd wd : Nat → Nat) (F : Nat → Nat) (mv : Nat) : Nat → Nat := if mvB n w kd wd F mv then carryN F (mv % 6) else F
def runN (n w : Nat) (kd wd : Nat → Nat) (F : Nat → Nat) (mm : Nat → Nat) : Nat → Nat → Nat
  | 0 => F
  | i + 1 => passN n kd (movedN n w kd wd (runN n w kd wd F mm i) (mm i))
section T62
variable {g : OG} {d : Nat} {I : IT} {X : XT} {K : Int32 → IT → XT → Prop} {KV : IT → XT → Prop}
variable {n w : Nat} {kd nd wd : Nat → Nat} {F : Nat → Nat} {m f a D : Nat} {dd : Nat → Nat} {S : Nat → Nat → Nat}
theorem mvB_iff {mv : Nat} : mvB n w kd wd F mv = true ↔ mvN n w kd wd F mv := by
  unfold mvB mvN canN catchN
  exact decide_eq_true_iff
theorem inv_out {I' : IT} {X' : XT} (h : Inv I X) (hs : Same Out I I') (hx : iU X') : Inv I' X' := by
  unfold Out at hs
  exact ⟨h.1.same (fun b k hb => hs b k (by omega)), h.2.1.same (fun b k hb => hs b k (by omega)), hx, h.2.2.2.1.same (fun b k hb => hs b k (by omega)), h.2.2.2.2.1.same (fun b k hb => hs b k (by omega)), h.2.2.2.2.2.same (fun b k hb => hs b k (by omega))⟩
theorem inv_asked_out {I' : IT} {X' : XT} {v : Int32} (h : Inv I X) (hs : ∀ b k, ¬ Out b k → I' b k = set2 I 1 14 v b k) (hx : iU X') : Inv (set2 I' 129 2 v) X' :=
  inv_out (inv_asked (v := v) h) (fun b k hb => by rw [set2_at, set2_at (set2 I 1 14 v), hs b k hb]) hx
theorem SF.out {I' : IT} (h : SF a I I') (h1 : 61 ≤ a) (h2 : a + 2 ≤ 127) : Same Out I I' := h.weak (fun b k hb => by unfold Out; omega)
theorem SMf.out {t : Nat} {I' : IT} (h : SMf t I I') (h1 : 1 ≤ t) : Same Out I I' := h.weak (fun b k hb => by unfold Out; omega)
theorem WF.moved {mv : Nat} (hw : WF n F m) (hn : n ≤ 5) : WF n (movedN n w kd wd F mv) m := by
  unfold movedN
  by_cases c : mvB n w kd wd F mv = true
  · rw [if_pos c]
    have q := mvB_iff.mp c
    exact hw.carry hn q.2.2.2.1.1 q.2.2.2.2.2.1
  · rw [if_neg c]; exact hw
theorem WF.run {mm : Nat → Nat} (hw : WF n F m) (hn : n ≤ 5) : ∀ s, m + s ≤ 900 → WF n (runN n w kd wd F mm s) (m + s)
  | 0, _ => hw
  | s + 1, h => WF.pass (WF.moved (WF.run hw hn s (by omega)) hn) hn (show m + s ≤ 900 by omega)
-- a row of the right size, its ints in range
theorem lp_X7_range {j z : Nat} {hi : Int32} (hj : j < 6) (hz : I (rowA j) 1 = nI z) (hz2 : z ≤ 40) (hT : (∀ k, k < z → ¬ I (rowA j + 1) k < 0 ∧ I (rowA j + 1) k ≤ hi) → K 0 I X) (hF : (∃ k, k < z ∧ ¬ (¬ I (rowA j + 1) k < 0 ∧ I (rowA j + 1) k ≤ hi)) → K 3 I X) : ∀ (q i : Nat), i + q = z → (∀ k, k < i → ¬ I (rowA j + 1) k < 0 ∧ I (rowA j + 1) k ≤ hi) → SR g (d + 1) iX7_lacksSizeOrRange 30 [(0, rf g (rowA j)), (3, .int hi), (4, .int (nI i))] I X (qI K) := by
  intro q
  induction q with
  | zero =>
    intro i hi2 hk
    obtain rfl : i = z := by omega
    refine rg_X7_lacksSizeOrRange_30 (rowA_mem hj) ?_
    rw [hz]
    exact ⟨fun _ => hT hk, fun c => absurd (Int32.le_refl _) c⟩
  | succ q ih =>
    intro i hi2 hk
    refine rg_X7_lacksSizeOrRange_30 (rowA_mem hj) ?_
    rw [hz, nI_clamp (by omega)]
    refine ⟨fun c => absurd c (nI_ge (by omega) (by omega)), fun _ => ⟨vp_in_nI (by omega) (by decide), fun c => hF ⟨i, by omega, fun y => y.1 c⟩, fun c => ⟨vp_in_nI (by omega) (by decide), fun c2 x3 e3 => ?_, fun c2 => hF ⟨i, by omega, fun y => c2 y.2⟩⟩⟩⟩
    subst e3
    rw [nI_1]
    refine ih (i + 1) (by omega) (fun k hk2 => ?_)
    by_cases e : k = i
    · subst e; exact ⟨c, c2⟩
    · exact hk k (by omega)
theorem c_X7_sizeRange {j lo up : Nat} {hi : Int32} (hj : j < 6) (hr : iR I) (hlo : lo ≤ 40) (hup : up ≤ 40)
    (hM : I 131 j = (-1) → K 1 I X)
    (hS : ∀ z, z ≤ 40 → I 131 j = nI z → ¬ (lo ≤ z ∧ z ≤ up) → K 5 I X)
    (hF : ∀ z, I 131 j = nI z → lo ≤ z → z ≤ up → (∃ k, k < z ∧ ¬ (0 ≤ I 132 (40 * j + k) ∧ I 132 (40 * j + k) ≤ hi)) → K 3 I X)
    (hT : ∀ z, I (rowA j) 1 = nI z → I 131 j = nI z → lo ≤ z → z ≤ up → (∀ k, k < z → I (rowA j + 1) k = I 132 (40 * j + k)) → (∀ k, k < z → 0 ≤ I 132 (40 * j + k) ∧ I 132 (40 * j + k) ≤ hi) → K 0 I X) :
    CI g (d + 2) iX7_lacksSizeOrRange [rf g (rowA j), .int (nI lo), .int (nI up), .int hi] I X K := by
  obtain ⟨g1, g2 | ⟨z, hz, g2, g3⟩⟩ := hr j hj
  · exact en_X7_lacksSizeOrRange (rowA_mem hj) (c_X7_isThere (rowA_mem hj) (fun c => absurd (by rw [g1, g2]; exact m1_lt) c) (fun _ => t_zero' (hM g2)))
  · refine en_X7_lacksSizeOrRange (rowA_mem hj) (c_X7_isThere (rowA_mem hj) (fun _ => t_one' ?_) (fun c => absurd c (by rw [g1, g2]; exact nI_pos (by omega))))
    rw [g1, g2, nI_ltI (by omega) (by omega), nI_leI (by omega) (by omega)]
    refine ⟨fun c => hS z hz g2 (by omega), fun c => ⟨fun c2 => ?_, fun c2 => hS z hz g2 (by omega)⟩⟩
    refine lp_X7_range hj (g1.trans g2) hz (fun q => hT z (g1.trans g2) g2 (by omega) c2 g3 (fun k hk => ?_)) (fun ⟨k, hk, q⟩ => hF z g2 (by omega) c2 ⟨k, hk, fun y => q ?_⟩) z 0 (by omega) (fun k hk => absurd hk (Nat.not_lt_zero k))
    · have := q k hk
      rw [g3 k hk] at this
      exact ⟨Int32.not_lt.mp this.1, this.2⟩
    · rw [g3 k hk]
      exact ⟨Int32.not_lt.mpr y.1, y.2⟩
theorem lp_X11_areMoves {j z : Nat} (hj : j < 6) (hz : I 131 j = nI z) (hz2 : z ≤ 40) (hT : (∀ k, k < z → 0 ≤ I 132 (40 * j + k) ∧ I 132 (40 * j + k) ≤ 36) → K 1 I X) (hF : (∃ k, k < z ∧ ¬ (0 ≤ I 132 (40 * j + k) ∧ I 132 (40 * j + k) ≤ 36)) → K 0 I X) : ∀ (q i : Nat) (b : Int32), i + q = z → (b = 1 ∧ (∀ k, k < i → 0 ≤ I 132 (40 * j + k) ∧ I 132 (40 * j + k) ≤ 36) ∨ b = 0 ∧ ∃ k, k < i ∧ ¬ (0 ≤ I 132 (40 * j + k) ∧ I 132 (40 * j + k) ≤ 36)) → SR g (d + 2) iX11_areMoves 4 [(0, rf g 129), (1, .int (nI j)), (2, .int b), (3, .int (nI i))] I X (qI K) := by
  intro q
  induction q with
  | zero =>
    intro i b hi2 hk
    obtain rfl : i = z := by omega
    refine rg_X11_areMoves_4 ?_
    rw [nI_clamp (by omega), hz]
    refine ⟨vp_in_nI (by omega) (by decide), fun _ => ?_, fun c => absurd (Int32.le_refl _) c⟩
    rcases hk with ⟨rfl, hk⟩ | ⟨rfl, hk⟩
    · exact ⟨Or.inr rfl, hT hk⟩
    · exact ⟨Or.inl rfl, hF hk⟩
  | succ q ih =>
    intro i b hi2 hk
    refine rg_X11_areMoves_4 ?_
    rw [nI_clamp (by omega), hz]
    refine ⟨vp_in_nI (by omega) (by decide), fun c => absurd c (nI_ge (by omega) (by omega)), fun _ => ?_⟩
    rcases hk with ⟨rfl, hk⟩ | ⟨rfl, k, hk1, hk2⟩
    · refine t_one (c_X11_rowAt hj (by omega) (c_X11_in (fun c => t_one (fun x3 e3 => ?_)) (fun c => t_zero (fun x3 e3 => ?_))))
      · subst e3
        rw [nI_1]
        refine ih (i + 1) 1 (by omega) (Or.inl ⟨rfl, fun k hk2 => ?_⟩)
        by_cases e : k = i
        · subst e; exact c
        · exact hk k (by omega)
      · subst e3
        rw [nI_1]
        exact ih (i + 1) 0 (by omega) (Or.inr ⟨rfl, i, by omega, c⟩)
    · refine t_zero (fun x3 e3 => ?_)
      subst e3
      rw [nI_1]
      exact ih (i + 1) 0 (by omega) (Or.inr ⟨rfl, k, by omega, hk2⟩)
theorem c_X11_areMoves {j z : Nat} (hj : j < 6) (hz : I 131 j = nI z) (hz2 : z ≤ 40) (hT : (∀ k, k < z → 0 ≤ I 132 (40 * j + k) ∧ I 132 (40 * j + k) ≤ 36) → K 1 I X) (hF : (∃ k, k < z ∧ ¬ (0 ≤ I 132 (40 * j + k) ∧ I 132 (40 * j + k) ≤ 36)) → K 0 I X) : CI g (d + 2) iX11_areMoves [rf g 129, .int (nI j)] I X K :=
  en_X11_areMoves (lp_X11_areMoves hj hz hz2 hT hF z 0 1 (by omega) (Or.inl ⟨rfl, fun k hk => absurd hk (Nat.not_lt_zero k)⟩))
-- the class's loop
theorem lp_X10_run {p z : Nat} {mm : Nat → Nat} (hp : p ∈ rowL) (hp61 : p + 1 < 61) (hz2 : z ≤ 10) (hm : m + 10 ≤ 900) (he0 : iE I n w kd nd wd) (hz : I p 1 = nI z) (hv : ∀ k, k < z → I (p + 1) k = nI (mm k) ∧ mm k ≤ 36) (hw : WF n F m)
    (hK : ∀ I', SF 69 I I' → K (nI (bset (runN n w kd wd F mm z) n)) (set2 I' 1 14 (nI (woodN (runN n w kd wd F mm z) n))) X) : ∀ (q i : Nat) (I' : IT), i + q = z → SF 69 I I' → FR I' 69 n (runN n w kd wd F mm i) → SR g (d + 5) iX10_run 66 [(0, rf g 1), (2, rf g p), (4, .int (nI i))] I' X (qI K) := by
  have hn := he0.1.2.2
  intro q
  induction q with
  | zero =>
    intro i I' hi hS hf
    obtain rfl : i = z := by omega
    refine rg_X10_run_66 hp ?_
    rw [hS p 1 (by omega), hz]
    refine ⟨fun _ => ?_, fun c => absurd (Int32.le_refl _) c⟩
    refine en_X1_allWood (a := 69) (by decide) (lp_X1_allWood (a := 69) (by decide) (by decide) (he0.fire (a := 69) (by decide) hS) hf ?_ n 0 (by omega))
    intro I4 e4
    subst e4
    rw [set2_at, if_neg (by omega), hf.2.1]
    exact hK I' hS
  | succ q ih =>
    intro i I' hi hS hf
    have he := he0.fire (a := 69) (by decide) hS
    have hw1 := WF.run (w := w) (kd := kd) (wd := wd) (mm := mm) hw hn i (by omega)
    obtain ⟨hv1, hv2⟩ := hv i (by omega)
    refine rg_X10_run_66 hp ?_
    rw [hS p 1 (by omega), hz]
    refine ⟨fun c => absurd c (nI_ge (by omega) (by omega)), fun _ => c_X7_get hp (by rw [hS p 1 (by omega)]; exact hz) (by omega) (vp_in_nI (by omega) (by omega)) ?_⟩
    rw [nI_clamp (by omega), hS (p + 1) i (by omega), hv1]
    have fin : ∀ I2, SF 69 I' I2 → FR I2 69 n (movedN n w kd wd (runN n w kd wd F mm i) (mm i)) → CV g (d + 4) iX1_pass [rf g 69] I2 X (fun I13 X14 => ∀ x15 : Int32, x15 = nI i + 1 → SR g (d + 5) iX10_run 66 [(0, rf g 1), (2, rf g p), (4, .int x15)] I13 X14 (qI K)) := by
      intro I2 h2 hf2
      refine c_X1_pass (a := 69) (by decide) (by decide) (he.fire (a := 69) (by decide) h2) hf2 (hw1.moved hn) (by omega) (fun I3 h3 hf3 x15 e15 => ?_)
      subst e15
      rw [nI_1]
      exact ih (i + 1) I3 (by omega) ((hS.trans h2).trans h3) hf3
    refine c_X1_canMove (a := 69) hv2 (by decide) (by decide) he hf hw1 (by omega) (fun c => t_one ?_) (fun c => t_zero (c_X1_bringN (by decide) (fin I' SF.rf ?_)))
    · refine c_X1_bring (a := 69) c.1 c.2.2.2.1.1 hn (by decide) hf (fun I2 h2 hf2 => fin I2 h2 ?_)
      unfold movedN
      rw [if_pos (mvB_iff.mpr c)]
      exact hf2
    · unfold movedN
      rw [if_neg (fun z => c (mvB_iff.mp z))]
      exact hf
theorem lp_X11_run130 (he : iE I n w kd nd wd) (hF : FM I 1 F) (hw : WF n F m) (hK : K (nI (bset F n)) (set2 I 129 2 (nI (woodN F n))) X) : ∀ (q i : Nat), i + q = n → SR g (d + 3) iX11_run 130 [(0, rf g 129), (2, .int (nI (woodN F i))), (3, .int (nI i))] I X (qI K) := by
  have hn := he.1.2.2
  intro q
  induction q with
  | zero =>
    intro i hi
    obtain rfl : i = n := by omega
    refine rg_X11_run_130 ?_
    rw [he.1.2.1]
    exact ⟨fun _ => c_X11_burning (f := 1) (by decide) he hF hw (c_X11_tells hK), fun c => absurd (Int32.le_refl _) c⟩
  | succ q ih =>
    intro i hi
    refine rg_X11_run_130 ?_
    rw [he.1.2.1, show (18 : Int32) + nI i = nI (18 * 1 + i) from nI_add 18 i, nI_clamp (by omega), hF i (by omega), nI_add]
    refine ⟨fun c => absurd c (nI_ge (by omega) (by omega)), fun _ => ⟨vp_in_nI (by omega) (by decide), fun x8 e8 x9 e9 => ?_⟩⟩
    subst e8; subst e9
    rw [nI_1]
    exact ih (i + 1) (by omega)
theorem lp_X11_run {j z : Nat} {mm : Nat → Nat} (hj : j < 6) (hz2 : z ≤ 10) (hm : m + 10 ≤ 900) (he0 : iE I n w kd nd wd) (hz : I 131 j = nI z) (hv : ∀ k, k < z → I 132 (40 * j + k) = nI (mm k) ∧ mm k ≤ 36) (hw : WF n F m)
    (hK : ∀ I', SMf 1 I I' → K (nI (bset (runN n w kd wd F mm z) n)) (set2 I' 129 2 (nI (woodN (runN n w kd wd F mm z) n))) X) : ∀ (q i : Nat) (I' : IT), i + q = z → SMf 1 I I' → FM I' 1 (runN n w kd wd F mm i) → SR g (d + 4) iX11_run 73 [(0, rf g 129), (1, .int (nI j)), (2, .int (nI i))] I' X (qI K) := by
  have hn := he0.1.2.2
  intro q
  induction q with
  | zero =>
    intro i I' hi hS hf
    obtain rfl : i = z := by omega
    refine rg_X11_run_73 ?_
    rw [nI_clamp (by omega), hS 131 j (by omega), hz]
    refine ⟨vp_in_nI (by omega) (by decide), fun _ => ?_, fun c => absurd (Int32.le_refl _) c⟩
    exact lp_X11_run130 (he0.frame hS) hf (WF.run (w := w) (kd := kd) (wd := wd) (mm := mm) hw hn i (by omega)) (hK I' hS) n 0 (by omega)
  | succ q ih =>
    intro i I' hi hS hf
    have he := he0.frame hS
    have hw1 := WF.run (w := w) (kd := kd) (wd := wd) (mm := mm) hw hn i (by omega)
    obtain ⟨hv1, hv2⟩ := hv i (by omega)
    refine rg_X11_run_73 ?_
    rw [nI_clamp (by omega), hS 131 j (by omega), hz]
    refine ⟨vp_in_nI (by omega) (by decide), fun c => absurd c (nI_ge (by omega) (by omega)), fun _ => c_X11_rowAt hj (by omega) ?_⟩
    rw [hS 132 _ (by omega), hv1]
    have fin : ∀ I2, SMf 1 I' I2 → FM I2 1 (movedN n w kd wd (runN n w kd wd F mm i) (mm i)) → CV g (d + 3) iX11_passes [rf g 129, .int 1] I2 X (fun I13 X14 => ∀ x15 : Int32, x15 = nI i + 1 → SR g (d + 4) iX11_run 73 [(0, rf g 129), (1, .int (nI j)), (2, .int x15)] I13 X14 (qI K)) := by
      intro I2 h2 hf2
      refine c_X11_passes (f := 1) (by decide) (he.frame h2) hf2 (hw1.moved hn) (by omega) (fun I3 h3 hf3 x15 e15 => ?_)
      subst e15
      rw [nI_1]
      exact ih (i + 1) I3 (by omega) ((hS.trans h2).trans h3) hf3
    have stay : ¬ mvN n w kd wd (runN n w kd wd F mm i) (mm i) → FM I' 1 (movedN n w kd wd (runN n w kd wd F mm i) (mm i)) := by
      intro c
      unfold movedN
      rw [if_neg (fun z => c (mvB_iff.mp z))]
      exact hf
    refine c_X11_isNone hv2 (fun c => t_one' (fin I' SMf.rf (stay (fun z => by have := z.1; omega)))) (fun c => t_zero' ?_)
    refine c_X11_canMove (f := 1) hv2 (by decide) he hf hw1 (by omega) (fun c2 => t_one ?_) (fun c2 => t_zero (fin I' SMf.rf (stay (fun z => c2 (Or.inr z)))))
    have c3 : mvN n w kd wd (runN n w kd wd F mm i) (mm i) := c2.elim (fun z => by omega) id
    rw [i_rem6 (by omega)]
    refine c_X11_carries (f := 1) (by decide) (by have := c3.2.2.2.1.1; omega) hf (fun I2 h2 hf2 => fin I2 h2 ?_)
    unfold movedN
    rw [if_pos (mvB_iff.mpr c3)]
    exact hf2
theorem fndC_at {b k f : Nat} (h : b ≠ 1 ∧ b ≠ 128) : fndC I f b k = I b k := by
  unfold fndC
  rw [set2_at, if_neg (by omega), set2_at, if_neg (by omega)]
theorem op_run {v : Int32} (h : Inv I X) : PairI g (d + 5) iX10_run iX11_run [.int v] I X := by
  obtain ⟨n, w, kd, nd, wd, D, dd, S, hE, hV, hK⟩ := h.2.2.2.2.2
  have hn := hE.1.2.2
  obtain ⟨v1, v2, v3, v4, v5, v6, v7⟩ := id hV
  have hD := v1.1
  have hw := v1.2.2.1 D (Nat.le_refl D)
  have e10 : nI n = 0 ↔ n = 0 := nI_eqL 0 (by omega) (by decide)
  refine en_X10_run (c_X10_isRow (fun q => t_one' ?_) (fun q => t_zero' (en_X11_run (c_X11_isRow (fun z => absurd z q) (fun _ => t_zero' ⟨rfl, h⟩)))))
  obtain ⟨j, hj, rfl⟩ := vp_in_of q (by decide)
  have tc : (nI j).toNatClampNeg = j := nI_clamp (by omega)
  refine c_X3_isEmpty hE (fun q0 => t_one ?_) (fun q0 => t_zero ⟨q, ?_⟩)
  · refine en_X11_run (c_X11_isRow (fun _ => t_one' ?_) (fun z => absurd q z))
    rw [hE.1.2.1, e10]
    exact ⟨fun z => absurd q0 z, fun _ => ⟨rfl, h⟩⟩
  rw [tc]
  have hne : ¬ n = 0 := by omega
  refine c_X7_sizeRange (lo := 0) (up := 10) hj h.2.2.2.1 (by decide) (by decide) (fun g2 => ?_) (fun z hz g2 hs => ?_) (fun z g2 _ hz hb => ?_) (fun z g1 g2 _ hz g3 hb => ?_)
  · refine ⟨fun c => absurd c (by decide), fun _ => c_X10_found 1 rfl (by decide) ?_⟩
    refine en_X11_run (c_X11_isRow (fun _ => t_one' ?_) (fun z => absurd q z))
    rw [fndC_at (by omega), hE.1.2.1, e10, tc, fndC_at (by omega), g2]
    exact ⟨fun _ => ⟨q, fun c => absurd c m1_nle, fun _ => c_X11_meets 1 rfl (by decide) ⟨rfl, inv_found (by decide) h⟩⟩, fun z => absurd z hne⟩
  · refine ⟨fun c => absurd c (by decide), fun _ => c_X10_found 5 rfl (by decide) ?_⟩
    refine en_X11_run (c_X11_isRow (fun _ => t_one' ?_) (fun z => absurd q z))
    rw [fndC_at (by omega), hE.1.2.1, e10, tc, fndC_at (by omega), g2]
    exact ⟨fun _ => ⟨q, fun _ => ⟨q, fun c => absurd c (nI_ge (a := 10) (by omega) (by omega)), fun _ => c_X11_meets 5 rfl (by decide) ⟨rfl, inv_found (by decide) h⟩⟩, fun c => absurd (nI_pos' (by omega)) c⟩, fun z => absurd z hne⟩
  · refine ⟨fun c => absurd c (by decide), fun _ => c_X10_found 3 rfl (by decide) ?_⟩
    refine en_X11_run (c_X11_isRow (fun _ => t_one' ?_) (fun z => absurd q z))
    have g2' : fndC I 3 131 j = nI z := by rw [fndC_at (by omega)]; exact g2
    rw [fndC_at (by omega), hE.1.2.1, e10, tc, g2']
    refine ⟨fun _ => ⟨q, fun _ => ⟨q, fun _ => c_X11_areMoves hj g2' (by omega) (fun c => ?_) (fun _ => t_zero' (c_X11_meets 3 rfl (by decide) ⟨rfl, inv_found (by decide) h⟩)), fun c => absurd (nI_le (b := 10) hz (by decide)) c⟩, fun c => absurd (nI_pos' (by omega)) c⟩, fun z => absurd z hne⟩
    obtain ⟨k, hk1, hk2⟩ := hb
    have := c k hk1
    rw [fndC_at (by omega)] at this
    exact absurd this hk2
  · refine t_zero (c_X1_become (a := 69) (p := 33) (by decide) (by decide) (by decide) hn v2.2.2.2 hw.2.2.1 hw.2.2.2.1 (fun I1 h1 hf1 => ?_))
    have hmv : ∀ k, k < z → I 132 (40 * j + k) = nI (I 132 (40 * j + k)).toNatClampNeg ∧ (I 132 (40 * j + k)).toNatClampNeg ≤ 36 := by
      intro k hk
      obtain ⟨u, hu, e⟩ := vp_in_of ((inB (n := 36) (by decide)).mp (hb k hk)) (by decide)
      rw [e, nI_clamp (by omega)]
      exact ⟨rfl, by omega⟩
    generalize hmm : (fun k => (I 132 (40 * j + k)).toNatClampNeg) = mm at *
    have hmv' : ∀ k, k < z → I 132 (40 * j + k) = nI (mm k) ∧ mm k ≤ 36 := by
      intro k hk
      rw [← hmm]
      exact hmv k hk
    have hra : rowA j + 1 < 16 := by unfold rowA; omega
    refine lp_X10_run (m := D) (z := z) (mm := mm) (rowA_mem hj) (by omega) hz (by omega) (hE.fire (a := 69) (by decide) h1) (by rw [h1 _ 1 (by omega)]; exact g1) (fun k hk => by rw [h1 _ k (by omega), g3 k hk]; exact hmv' k hk) hw (fun I2 h2 => ?_) z 0 I1 (by omega) SF.rf hf1
    generalize hv : nI (woodN (runN n w kd wd (S D) mm z) n) = va
    have hs12 : ∀ b k, ¬ (69 ≤ b ∧ b ≤ 71) → I2 b k = I b k := fun b k hb => by rw [h2 b k (by omega), h1 b k (by omega)]
    have hs3 : ∀ b k, ¬ (69 ≤ b ∧ b ≤ 71) → b ≠ 1 → set2 I2 1 14 va b k = I b k := fun b k hb hb1 => by rw [set2_at, if_neg (by omega), hs12 b k hb]
    have hE3 : iE (set2 I2 1 14 va) n w kd nd wd := hE.same (fun b k hb => hs3 b k (by omega) (by omega))
    have hF3 : FM (set2 I2 1 14 va) 0 (S D) := FM0.mpr (fun k hk => by rw [hs3 142 k (by omega) (by omega)]; exact v6 k hk)
    have g2' : set2 I2 1 14 va 131 j = nI z := by rw [hs3 131 j (by omega) (by omega)]; exact g2
    refine en_X11_run (c_X11_isRow (fun _ => t_one' ?_) (fun z => absurd q z))
    rw [hE3.1.2.1, e10, tc, g2']
    refine ⟨fun _ => ⟨q, fun _ => ⟨q, fun _ => c_X11_areMoves hj g2' (by omega) (fun _ => t_one' ?_) (fun c => ?_), fun c => absurd (nI_le (b := 10) hz (by decide)) c⟩, fun c => absurd (nI_pos' (by omega)) c⟩, fun z => absurd z hne⟩
    · refine c_X11_copyTo (s := 0) (t := 1) (by decide) (by decide) (by decide) hF3 (fun I4 h4 hF4 => ?_)
      refine lp_X11_run (m := D) (z := z) (mm := mm) hj hz (by omega) (hE3.frame h4) (by rw [h4 131 j (by omega)]; exact g2') (fun k hk => by rw [h4 132 _ (by omega), hs3 132 _ (by omega) (by omega)]; exact hmv' k hk) hw (fun I5 h5 => ?_) z 0 I4 (by omega) SMf.rf hF4
      rw [hv]
      refine ⟨rfl, inv_asked_out h (fun b k hb => ?_) h.2.2.1⟩
      unfold Out at hb
      rw [h5 b k (by omega), h4 b k (by omega), set2_at, set2_at, hs12 b k (by omega)]
    · obtain ⟨k, hk1, hk2⟩ := c
      rw [hs3 132 _ (by omega) (by omega)] at hk2
      exact absurd (hb k hk1) hk2
end T62

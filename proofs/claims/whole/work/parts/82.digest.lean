/-! ===== digest ===== -/
def mx (v : Int32) (h : Int64) : Int64 := 31 * h + v.toInt64
def fo (f : Nat → Int64 → Int64) : Nat → Nat → Int64 → Int64
  | 0, _, h => h
  | q + 1, i, h => fo f q (i + 1) (f i h)
def dgC (I : IT) (n : Nat) (kd F : Nat → Nat) (D : Nat) (x : Nat) (h : Int64) : Int64 := mx (cntV I n kd F D x) h
def dgF (kd nd F : Nat → Nat) (j : Nat) (x : Nat) (h : Int64) : Int64 := mx (factV kd nd F j x) h
def dgH (kd nd F : Nat → Nat) (j : Nat) (h : Int64) : Int64 := fo (dgF kd nd F j) 6 0 h
def dgK (I : IT) (k : Nat) (h : Int64) : Int64 := mx (if I 144 k = 0 then -1 else I 145 k) h
def dgE (I : IT) (c b : Nat) (k : Nat) (h : Int64) : Int64 := mx (I c (b + k)) h
def dgR (I : IT) (r : Nat) (h : Int64) : Int64 := fo (dgE I 132 (40 * r)) (I 131 r).toNatClampNeg 0 (mx (I 131 r) h)
def dgT (I : IT) (t : Nat) (h : Int64) : Int64 := fo (dgE I 135 (60 * t)) (I 134 t).toNatClampNeg 0 (mx (I 134 t) h)
section T82
variable {g : OG} {d : Nat} {I : IT} {X : XT} {K : Int32 → IT → XT → Prop} {KV : IT → XT → Prop} {KL : Int64 → IT → XT → Prop}
variable {n w : Nat} {kd nd wd mm : Nat → Nat} {F : Nat → Nat} {m f a D j z p : Nat} {dd : Nat → Nat} {S : Nat → Nat → Nat}
theorem fo_s {f : Nat → Int64 → Int64} {q i : Nat} {h : Int64} : fo f (q + 1) i h = fo f q (i + 1) (f i h) := rfl
theorem m1_clamp : ((-1) : Int32).toNatClampNeg = 0 := by decide
theorem c_X11_byteAt {t i : Nat} (ht : t < 4) (hi : i < z) (hz : I 134 t = nI z) (hz60 : z ≤ 60) (hK : K (I 135 (60 * t + i)) I X) : CI g (d + 1) iX11_byteAt [rf g 129, .int (nI t), .int (nI i)] I X K := by
  refine en_X11_byteAt ?_
  rw [show (60 : Int32) * nI t + nI i = nI (60 * t + i) by rw [show (60 : Int32) = nI 60 from rfl, pk_mul, nI_add], nI_clamp (n := t) (by omega), nI_clamp (by omega), hz]
  exact ⟨vp_in_nI (by omega) (by decide), fun c => absurd c (nI_ge (by omega) (by omega)), fun _ => ⟨vp_in_nI (by omega) (by decide), hK⟩⟩
-- the class
theorem lp_X7_dig {r : Nat} {v : Int64} (hr6 : r < 6) (hz : I (rowA r) 1 = nI z) (hz40 : z ≤ 40) (he : ∀ k, k < z → I (rowA r + 1) k = I 132 (40 * r + k)) : ∀ (q i : Nat) (h : Int64), i + q = z → KL (fo (dgE I 132 (40 * r)) q i h) I X → SR g (d + 1) iX7_digestOnto 15 [(0, rf g (rowA r)), (3, .long h), (5, .int (nI i))] I X (qL KL) := by
  intro q
  induction q with
  | zero =>
    intro i h hi hK
    obtain rfl : i = z := by omega
    refine rg_X7_digestOnto_15 (rowA_mem hr6) ?_
    rw [hz]
    exact ⟨fun _ => hK, fun c => absurd (Int32.le_refl _) c⟩
  | succ q ih =>
    intro i h hi hK
    refine rg_X7_digestOnto_15 (rowA_mem hr6) ?_
    rw [hz]
    refine ⟨fun c => absurd c (nI_ge (by omega) (by omega)), fun _ => ⟨vp_in_nI (by omega) (by decide), fun x2 e2 x3 e3 => ?_⟩⟩
    rw [nI_clamp (by omega), he i (by omega)] at e2
    subst e2; subst e3
    rw [nI_1]
    exact ih (i + 1) _ (by omega) hK
theorem lp_X9_dig {r : Nat} (hr6 : r < 4) (hz : I (textA r) 1 = nI z) (hz40 : z ≤ 60) (he : ∀ k, k < z → I (textA r + 1) k = I 135 (60 * r + k)) : ∀ (q i : Nat) (h : Int64), i + q = z → KL (fo (dgE I 135 (60 * r)) q i h) I X → SR g (d + 1) iX9_digestOnto 15 [(0, rf g (textA r)), (3, .long h), (5, .int (nI i))] I X (qL KL) := by
  intro q
  induction q with
  | zero =>
    intro i h hi hK
    obtain rfl : i = z := by omega
    refine rg_X9_digestOnto_15 (textA_mem hr6) ?_
    rw [hz]
    exact ⟨fun _ => hK, fun c => absurd (Int32.le_refl _) c⟩
  | succ q ih =>
    intro i h hi hK
    refine rg_X9_digestOnto_15 (textA_mem hr6) ?_
    rw [hz]
    refine ⟨fun c => absurd c (nI_ge (by omega) (by omega)), fun _ => ⟨vp_in_nI (by omega) (by decide), fun x2 e2 x3 e3 => ?_⟩⟩
    rw [nI_clamp (by omega), he i (by omega)] at e2
    subst e2; subst e3
    rw [nI_1]
    exact ih (i + 1) _ (by omega) hK
theorem c_X7_dig {r : Nat} {h : Int64} (hr6 : r < 6) (hr : iR I) (hK : KL (dgR I r h) I X) : CL g (d + 1) iX7_digestOnto [rf g (rowA r), .long h] I X KL := by
  refine en_X7_digestOnto (rowA_mem hr6) (fun x1 e1 => ?_)
  obtain ⟨g1, g2 | ⟨z, hz, g2, g3⟩⟩ := hr r hr6
  · unfold dgR at hK
    rw [g2, m1_clamp] at hK
    rw [g1, g2] at e1
    subst e1
    refine rg_X7_digestOnto_15 (rowA_mem hr6) ?_
    rw [g1, g2]
    exact ⟨fun _ => hK, fun c => absurd (by decide) c⟩
  · unfold dgR at hK
    rw [g2, nI_clamp (by omega)] at hK
    rw [g1, g2] at e1
    subst e1
    exact lp_X7_dig (v := h) hr6 (g1.trans g2) hz g3 z 0 _ (by omega) hK
theorem c_X9_dig {r : Nat} {h : Int64} (hr6 : r < 4) (hr : iT I) (hK : KL (dgT I r h) I X) : CL g (d + 1) iX9_digestOnto [rf g (textA r), .long h] I X KL := by
  refine en_X9_digestOnto (textA_mem hr6) (fun x1 e1 => ?_)
  obtain ⟨g1, g2 | ⟨z, hz, g2, g3⟩⟩ := hr r hr6
  · unfold dgT at hK
    rw [g2, m1_clamp] at hK
    rw [g1, g2] at e1
    subst e1
    refine rg_X9_digestOnto_15 (textA_mem hr6) ?_
    rw [g1, g2]
    exact ⟨fun _ => hK, fun c => absurd (by decide) c⟩
  · unfold dgT at hK
    rw [g2, nI_clamp (by omega)] at hK
    rw [g1, g2] at e1
    subst e1
    exact lp_X9_dig hr6 (g1.trans g2) hz g3 z 0 _ (by omega) hK
theorem lp_dig154 (hr : iT I) : ∀ (q i : Nat) (h : Int64), i + q = 4 → KL (fo (dgT I) q i h) I X → SR g (d + 2) iX10_digest 154 [(0, rf g 1), (1, .long h), (3, .int (nI i))] I X (qL KL) := by
  intro q
  induction q with
  | zero =>
    intro i h hi hK
    obtain rfl : i = 4 := by omega
    exact rg_X10_digest_154 ⟨fun _ => hK, fun c => absurd (Int32.le_refl _) c⟩
  | succ q ih =>
    intro i h hi hK
    refine rg_X10_digest_154 ⟨fun c => absurd c (nI_ge (a := i) (b := 4) (by omega) (by omega)), fun _ => ⟨vp_in_nI (by omega) (by decide), ?_⟩⟩
    rw [nI_clamp (by omega)]
    refine c_X9_dig (by omega) hr (fun x5 e5 => ?_)
    subst e5
    rw [nI_1]
    exact ih (i + 1) _ (by omega) hK
theorem lp_dig129 (hr : iR I) (ht : iT I) : ∀ (q i : Nat) (h : Int64), i + q = 6 → KL (fo (dgT I) 4 0 (fo (dgR I) q i h)) I X → SR g (d + 2) iX10_digest 129 [(0, rf g 1), (1, .long h), (3, .int (nI i))] I X (qL KL) := by
  intro q
  induction q with
  | zero =>
    intro i h hi hK
    obtain rfl : i = 6 := by omega
    exact rg_X10_digest_129 ⟨fun _ => lp_dig154 ht 4 0 _ (by omega) hK, fun c => absurd (Int32.le_refl _) c⟩
  | succ q ih =>
    intro i h hi hK
    refine rg_X10_digest_129 ⟨fun c => absurd c (nI_ge (a := i) (b := 6) (by omega) (by omega)), fun _ => ⟨vp_in_nI (by omega) (by decide), ?_⟩⟩
    rw [nI_clamp (by omega)]
    refine c_X7_dig (by omega) hr (fun x5 e5 => ?_)
    subst e5
    rw [nI_1]
    exact ih (i + 1) _ (by omega) hK
theorem lp_dig83 (hk : iK I n kd) (hr : iR I) (ht : iT I) : ∀ (q i : Nat) (h : Int64), i + q = 3 → KL (fo (dgT I) 4 0 (fo (dgR I) 6 0 (fo (dgK I) q i h))) I X → SR g (d + 2) iX10_digest 83 [(0, rf g 1), (1, .long h), (3, .int (nI i))] I X (qL KL) := by
  intro q
  induction q with
  | zero =>
    intro i h hi hK
    obtain rfl : i = 3 := by omega
    exact rg_X10_digest_83 ⟨fun _ => lp_dig129 hr ht 6 0 _ (by omega) hK, fun c => absurd (Int32.le_refl _) c⟩
  | succ q ih =>
    intro i h hi hK
    refine rg_X10_digest_83 ⟨fun c => absurd c (nI_ge (a := i) (b := 3) (by omega) (by omega)), fun _ => ⟨vp_in_nI (by omega) (by decide), ?_⟩⟩
    rw [nI_clamp (by omega)]
    obtain ⟨g1, g2⟩ := hk i (by omega)
    have k0 : I 144 i = 0 → dgK I i h = mx (-1) h := fun c => by unfold dgK; rw [if_pos c]
    have k1 : ¬ I 144 i = 0 → dgK I i h = mx (I 145 i) h := fun c => by unfold dgK; rw [if_neg c]
    have hK2 : KL (fo (dgT I) 4 0 (fo (dgR I) 6 0 (fo (dgK I) q (i + 1) (dgK I i h)))) I X := hK
    rw [g1]
    refine ⟨fun c x2 e2 x3 e3 => ?_, fun c => ⟨vp_in_nI (by omega) (by decide), fun x2 e2 x3 e3 => ?_⟩⟩
    · subst e2; subst e3
      rw [nI_1]
      refine ih (i + 1) _ (by omega) ?_
      rw [k0 c] at hK2
      exact hK2
    · rcases g2 with g2 | ⟨g2, D, dd, S, a1, a2, a3, a4⟩
      · exact absurd g2 c
      rw [a2.1, ← a3] at e2
      subst e2; subst e3
      rw [nI_1]
      refine ih (i + 1) _ (by omega) ?_
      rw [k1 c] at hK2
      exact hK2
theorem lp_dig33 (he : iE I n w kd nd wd) (hf : FR I 33 n F) (hw : WF n F m) (hk : iK I n kd) (hr : iR I) (ht : iT I) : ∀ (q i : Nat) (h : Int64), i + q = n → KL (fo (dgT I) 4 0 (fo (dgR I) 6 0 (fo (dgK I) 3 0 (fo (dgH kd nd F) q i h)))) I X → SR g (d + 4) iX10_digest 33 [(0, rf g 1), (1, .long h), (3, .int (nI i))] I X (qL KL) := by
  have hn := he.1.2.2
  intro q
  induction q with
  | zero =>
    intro i h hi hK
    obtain rfl : i = n := by omega
    refine rg_X10_digest_33 ?_
    rw [he.1.1]
    exact ⟨fun _ => lp_dig83 hk hr ht 3 0 _ (by omega) hK, fun c => absurd (Int32.le_refl _) c⟩
  | succ q ih =>
    intro i h hi hK
    refine rg_X10_digest_33 ?_
    rw [he.1.1]
    refine ⟨fun c => absurd c (nI_ge (by omega) (by omega)), fun _ => ?_⟩
    have inner : ∀ (s x : Nat) (h2 : Int64), x + s = 6 → fo (dgF kd nd F i) s x h2 = dgH kd nd F i h → SR g (d + 4) iX10_digest 47 [(0, rf g 1), (1, .long h2), (3, .int (nI i)), (4, .int (nI x))] I X (qL KL) := by
      intro s
      induction s with
      | zero =>
        intro x h2 hx e
        obtain rfl : x = 6 := by omega
        refine rg_X10_digest_47 ⟨fun _ x1 e1 => ?_, fun c => absurd (Int32.le_refl _) c⟩
        subst e1
        rw [nI_1]
        refine ih (i + 1) h2 (by omega) ?_
        rw [show h2 = dgH kd nd F i h from e]
        exact hK
      | succ s ihs =>
        intro x h2 hx e
        refine rg_X10_digest_47 ⟨fun c => absurd c (nI_ge (a := x) (b := 6) (by omega) (by omega)), fun _ => ?_⟩
        refine c_X10_factOf (by omega) (by omega) he hf hw (fun x5 e5 x6 e6 => ?_)
        subst e5; subst e6
        rw [nI_1]
        exact ihs (x + 1) _ (by omega) e
    exact inner 6 0 h (by omega) rfl
theorem lp_dig6 (h0 : Inv I X) (he : iE I n w kd nd wd) (hV : iV I n kd D dd S) (hk : iK I n kd) : ∀ (q i : Nat) (h : Int64), i + q = 9 → KL (fo (dgT I) 4 0 (fo (dgR I) 6 0 (fo (dgK I) 3 0 (fo (dgH kd nd (S D)) n 0 (fo (dgC I n kd (S D) D) q i h))))) I X → SR g (d + 4) iX10_digest 6 [(0, rf g 1), (1, .long h), (3, .int (nI i))] I X (qL KL) := by
  intro q
  induction q with
  | zero =>
    intro i h hi hK
    obtain rfl : i = 9 := by omega
    exact rg_X10_digest_6 ⟨fun _ => lp_dig33 he hV.2.1.2.2.2 (hV.1.2.2.1 D (Nat.le_refl D)) hk h0.2.2.2.1 h0.2.2.2.2.1 n 0 _ (by omega) hK, fun c => absurd (Int32.le_refl _) c⟩
  | succ q ih =>
    intro i h hi hK
    refine rg_X10_digest_6 ⟨fun c => absurd c (nI_ge (a := i) (b := 9) (by omega) (by omega)), fun _ => ?_⟩
    refine c_X10_countOf (by omega) h0 he hV hk (fun x4 e4 x5 e5 => ?_)
    subst e4; subst e5
    rw [nI_1]
    exact ih (i + 1) _ (by omega) hK
-- the model: X' is X but for the hash
theorem iU_hash {v : Int64} (h : iU X) : iU (set2L X.1 129 37 v, X.2) :=
  ⟨(set2L_off X.1 (a := 129) (j := 37) (b := 1) (k := 15) v (by omega)).trans (h.1.trans (set2L_off X.1 (a := 129) (j := 37) (b := 129) (k := 3) v (by omega)).symm), (set2L_off X.1 (a := 129) (j := 37) (b := 1) (k := 16) v (by omega)).trans (h.2.trans (set2L_off X.1 (a := 129) (j := 37) (b := 129) (k := 4) v (by omega)).symm)⟩
def DX (h : Int64) (X : XT) : Prop := X.1 129 37 = h ∧ iU X
theorem c_X11_mix {v : Int64} {h : Int64} (hx : DX h X) (hK : ∀ X', DX (31 * h + v) X' → KV I X') : CV g (d + 1) iX11_mix [rf g 129, .long v] I X KV := by
  refine en_X11_mix (fun X1 e1 => hK X1 ?_)
  subst e1
  refine ⟨?_, ?_⟩
  · rw [hx.1]
    exact set2L_self X.1 129 37 _
  · obtain ⟨_, a, b⟩ := hx
    exact iU_hash ⟨a, b⟩
theorem lp_m91 (ht : iT I) : ∀ (q i : Nat) (h : Int64) (X : XT), i + q = 4 → DX h X → (∀ X', DX (fo (dgT I) q i h) X' → KL (fo (dgT I) q i h) I X') → SR g (d + 2) iX11_digest 91 [(0, rf g 129), (1, .int (nI i))] I X (qL KL) := by
  intro q
  induction q with
  | zero =>
    intro i h X hi hx hK
    obtain rfl : i = 4 := by omega
    refine rg_X11_digest_91 ⟨fun _ => ?_, fun c => absurd (Int32.le_refl _) c⟩
    rw [hx.1]
    exact hK X hx
  | succ q ih =>
    intro i h X hi hx hK
    refine rg_X11_digest_91 ⟨fun c => absurd c (nI_ge (a := i) (b := 4) (by omega) (by omega)), fun _ => ⟨vp_in_nI (by omega) (by decide), ?_⟩⟩
    rw [nI_clamp (by omega)]
    refine c_X11_mix hx (fun X2 hx2 => ?_)
    have fin : ∀ X' h', h' = dgT I i h → DX h' X' → SR g (d + 2) iX11_digest 91 [(0, rf g 129), (1, .int (nI i + 1))] I X' (qL KL) := by
      intro X' h' e hx'
      subst e
      rw [nI_1]
      exact ih (i + 1) _ X' (by omega) hx' hK
    obtain ⟨g1, g2 | ⟨z, hz, g2, g3⟩⟩ := ht i (by omega)
    · refine rg_X11_digest_109 ?_
      rw [nI_clamp (by omega), g2]
      refine ⟨vp_in_nI (by omega) (by decide), fun _ x2 e2 => ?_, fun c => absurd (by decide) c⟩
      subst e2
      refine fin X2 _ ?_ hx2
      unfold dgT
      rw [g2, m1_clamp]
      rfl
    · have inner : ∀ (s x : Nat) (h2 : Int64) (X2 : XT), x + s = z → DX h2 X2 → fo (dgE I 135 (60 * i)) s x h2 = dgT I i h → SR g (d + 2) iX11_digest 109 [(0, rf g 129), (1, .int (nI i)), (2, .int (nI x))] I X2 (qL KL) := by
        intro s
        induction s with
        | zero =>
          intro x h2 X2 hx2 hX2 e
          obtain rfl : x = z := by omega
          refine rg_X11_digest_109 ?_
          rw [nI_clamp (by omega), g2]
          refine ⟨vp_in_nI (by omega) (by decide), fun _ x2 e2 => ?_, fun c => absurd (Int32.le_refl _) c⟩
          subst e2
          exact fin X2 h2 e hX2
        | succ s ihs =>
          intro x h2 X2 hx2 hX2 e
          refine rg_X11_digest_109 ?_
          rw [nI_clamp (by omega), g2]
          refine ⟨vp_in_nI (by omega) (by decide), fun c => absurd c (nI_ge (by omega) (by omega)), fun _ => c_X11_byteAt (by omega) (by omega) g2 hz (c_X11_mix hX2 (fun X3 hX3 x8 e8 => ?_))⟩
          subst e8
          rw [nI_1]
          exact ihs (x + 1) _ X3 (by omega) hX3 e
      refine inner z 0 _ X2 (by omega) hx2 ?_
      unfold dgT
      rw [g2, nI_clamp (by omega)]
      rfl
theorem lp_m37 (hr : iR I) (ht : iT I) : ∀ (q i : Nat) (h : Int64) (X : XT), i + q = 6 → DX h X → (∀ X', DX (fo (dgT I) 4 0 (fo (dgR I) q i h)) X' → KL (fo (dgT I) 4 0 (fo (dgR I) q i h)) I X') → SR g (d + 2) iX11_digest 37 [(0, rf g 129), (1, .int (nI i))] I X (qL KL) := by
  intro q
  induction q with
  | zero =>
    intro i h X hi hx hK
    obtain rfl : i = 6 := by omega
    exact rg_X11_digest_37 ⟨fun _ => lp_m91 ht 4 0 _ X (by omega) hx hK, fun c => absurd (Int32.le_refl _) c⟩
  | succ q ih =>
    intro i h X hi hx hK
    refine rg_X11_digest_37 ⟨fun c => absurd c (nI_ge (a := i) (b := 6) (by omega) (by omega)), fun _ => ⟨vp_in_nI (by omega) (by decide), ?_⟩⟩
    rw [nI_clamp (by omega)]
    refine c_X11_mix hx (fun X2 hx2 => ?_)
    have fin : ∀ X' h', h' = dgR I i h → DX h' X' → SR g (d + 2) iX11_digest 37 [(0, rf g 129), (1, .int (nI i + 1))] I X' (qL KL) := by
      intro X' h' e hx'
      subst e
      rw [nI_1]
      exact ih (i + 1) _ X' (by omega) hx' hK
    obtain ⟨g1, g2 | ⟨z, hz, g2, g3⟩⟩ := hr i (by omega)
    · refine rg_X11_digest_56 ?_
      rw [nI_clamp (by omega), g2]
      refine ⟨vp_in_nI (by omega) (by decide), fun _ x2 e2 => ?_, fun c => absurd (by decide) c⟩
      subst e2
      refine fin X2 _ ?_ hx2
      unfold dgR
      rw [g2, m1_clamp]
      rfl
    · have inner : ∀ (s x : Nat) (h2 : Int64) (X2 : XT), x + s = z → DX h2 X2 → fo (dgE I 132 (40 * i)) s x h2 = dgR I i h → SR g (d + 2) iX11_digest 56 [(0, rf g 129), (1, .int (nI i)), (2, .int (nI x))] I X2 (qL KL) := by
        intro s
        induction s with
        | zero =>
          intro x h2 X2 hx2 hX2 e
          obtain rfl : x = z := by omega
          refine rg_X11_digest_56 ?_
          rw [nI_clamp (by omega), g2]
          refine ⟨vp_in_nI (by omega) (by decide), fun _ x2 e2 => ?_, fun c => absurd (Int32.le_refl _) c⟩
          subst e2
          exact fin X2 h2 e hX2
        | succ s ihs =>
          intro x h2 X2 hx2 hX2 e
          refine rg_X11_digest_56 ?_
          rw [nI_clamp (by omega), g2]
          refine ⟨vp_in_nI (by omega) (by decide), fun c => absurd c (nI_ge (by omega) (by omega)), fun _ => c_X11_rowAt (by omega) (by omega) (c_X11_mix hX2 (fun X3 hX3 x8 e8 => ?_))⟩
          subst e8
          rw [nI_1]
          exact ihs (x + 1) _ X3 (by omega) hX3 e
      refine inner z 0 _ X2 (by omega) hx2 ?_
      unfold dgR
      rw [g2, nI_clamp (by omega)]
      rfl
theorem lp_m43 : ∀ (q i : Nat) (h : Int64) (X : XT), i + q = 3 → DX h X → (∀ X', DX (fo (dgK I) q i h) X' → KV I X') → SR g (d + 2) iX11_mixVillage 43 [(0, rf g 129), (1, .int (nI i))] I X (qV KV) := by
  intro q
  induction q with
  | zero =>
    intro i h X hi hx hK
    obtain rfl : i = 3 := by omega
    exact rg_X11_mixVillage_43 ⟨fun _ => hK X hx, fun c => absurd (Int32.le_refl _) c⟩
  | succ q ih =>
    intro i h X hi hx hK
    have k0 : I 144 i = 0 → dgK I i h = mx (-1) h := fun c => by unfold dgK; rw [if_pos c]
    have k1 : ¬ I 144 i = 0 → dgK I i h = mx (I 145 i) h := fun c => by unfold dgK; rw [if_neg c]
    have hK2 : ∀ X', DX (fo (dgK I) q (i + 1) (dgK I i h)) X' → KV I X' := hK
    refine rg_X11_mixVillage_43 ⟨fun c => absurd c (nI_ge (a := i) (b := 3) (by omega) (by omega)), fun _ => ⟨vp_in_nI (by omega) (by decide), ?_⟩⟩
    rw [nI_clamp (by omega)]
    refine ⟨fun c => c_X11_mix hx (fun X2 hx2 x4 e4 => ?_), fun c => ⟨vp_in_nI (by omega) (by decide), c_X11_mix hx (fun X2 hx2 x4 e4 => ?_)⟩⟩
    · subst e4
      rw [nI_1]
      refine ih (i + 1) _ X2 (by omega) hx2 ?_
      rw [k0 c] at hK2
      exact hK2
    · subst e4
      rw [nI_1]
      refine ih (i + 1) _ X2 (by omega) hx2 ?_
      rw [k1 c] at hK2
      exact hK2
theorem lp_m2 (he : iE I n w kd nd wd) (hf : FM I 0 F) (hw : WF n F m) : ∀ (q i : Nat) (h : Int64) (X : XT), i + q = n → DX h X → (∀ X', DX (fo (dgK I) 3 0 (fo (dgH kd nd F) q i h)) X' → KV I X') → SR g (d + 3) iX11_mixVillage 2 [(0, rf g 129), (1, .int (nI i))] I X (qV KV) := by
  have hn := he.1.2.2
  intro q
  induction q with
  | zero =>
    intro i h X hi hx hK
    obtain rfl : i = n := by omega
    refine rg_X11_mixVillage_2 ?_
    rw [he.1.2.1]
    exact ⟨fun _ => lp_m43 3 0 _ X (by omega) hx hK, fun c => absurd (Int32.le_refl _) c⟩
  | succ q ih =>
    intro i h X hi hx hK
    refine rg_X11_mixVillage_2 ?_
    rw [he.1.2.1]
    refine ⟨fun c => absurd c (nI_ge (by omega) (by omega)), fun _ => ?_⟩
    have inner : ∀ (s x : Nat) (h2 : Int64) (X2 : XT), x + s = 6 → DX h2 X2 → fo (dgF kd nd F i) s x h2 = dgH kd nd F i h → SR g (d + 3) iX11_mixVillage 12 [(0, rf g 129), (1, .int (nI i)), (2, .int (nI x))] I X2 (qV KV) := by
      intro s
      induction s with
      | zero =>
        intro x h2 X2 hx2 hX2 e
        obtain rfl : x = 6 := by omega
        refine rg_X11_mixVillage_12 ⟨fun _ x1 e1 => ?_, fun c => absurd (Int32.le_refl _) c⟩
        subst e1
        rw [nI_1]
        refine ih (i + 1) h2 X2 (by omega) hX2 ?_
        rw [show h2 = dgH kd nd F i h from e]
        exact hK
      | succ s ihs =>
        intro x h2 X2 hx2 hX2 e
        refine rg_X11_mixVillage_12 ⟨fun c => absurd c (nI_ge (a := x) (b := 6) (by omega) (by omega)), fun _ => ?_⟩
        refine c_X11_houseTells (by omega) (by omega) he hf hw (c_X11_mix hX2 (fun X3 hX3 x7 e7 => ?_))
        subst e7
        rw [nI_1]
        exact ihs (x + 1) _ X3 (by omega) hX3 e
    exact inner 6 0 h X (by omega) hx rfl
theorem lp_m9 (he : iE I n w kd nd wd) (hV : iV I n kd D dd S) (hr : iR I) (ht : iT I) : ∀ (q i : Nat) (h : Int64) (X : XT), i + q = 9 → DX h X → (∀ X', DX (fo (dgT I) 4 0 (fo (dgR I) 6 0 (fo (dgK I) 3 0 (fo (dgH kd nd (S D)) n 0 (fo (dgC I n kd (S D) D) q i h))))) X' → KL (fo (dgT I) 4 0 (fo (dgR I) 6 0 (fo (dgK I) 3 0 (fo (dgH kd nd (S D)) n 0 (fo (dgC I n kd (S D) D) q i h))))) I X') → SR g (d + 4) iX11_digest 9 [(0, rf g 129), (1, .int (nI i))] I X (qL KL) := by
  intro q
  induction q with
  | zero =>
    intro i h X hi hx hK
    obtain rfl : i = 9 := by omega
    refine rg_X11_digest_9 ⟨fun _ => en_X11_mixVillage (lp_m2 he (FM0.mpr hV.2.2.2.2.2.1) (hV.1.2.2.1 D (Nat.le_refl D)) n 0 h X (by omega) hx (fun X2 hx2 => ?_)), fun c => absurd (Int32.le_refl _) c⟩
    exact lp_m37 hr ht 6 0 _ X2 (by omega) hx2 hK
  | succ q ih =>
    intro i h X hi hx hK
    refine rg_X11_digest_9 ⟨fun c => absurd c (nI_ge (a := i) (b := 9) (by omega) (by omega)), fun _ => ?_⟩
    refine c_X11_counted (by omega) he hV (c_X11_mix hx (fun X3 hX3 x8 e8 => ?_))
    subst e8
    rw [nI_1]
    exact ih (i + 1) _ X3 (by omega) hX3 hK
theorem op_digest (h : Inv I X) : PairL g (d + 4) iX10_digest iX11_digest [] I X := by
  obtain ⟨n, w, kd, nd, wd, D, dd, S, hE, hV, hK⟩ := h.2.2.2.2.2
  refine en_X10_digest (lp_dig6 h hE hV hK 9 0 17 (by omega) ?_)
  refine en_X11_digest (fun X1 e1 => lp_m9 hE hV h.2.2.2.1 h.2.2.2.2.1 9 0 17 X1 (by omega) ⟨?_, ?_⟩ (fun X' hx' => ⟨rfl, inv_out h Same.rf hx'.2⟩))
  · subst e1
    exact set2L_self X.1 129 37 _
  · subst e1
    obtain ⟨a, b⟩ := h.2.2.1
    exact iU_hash ⟨a, b⟩
end T82

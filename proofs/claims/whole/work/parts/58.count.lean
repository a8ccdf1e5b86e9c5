/-! ===== count ===== -/
def cntB (p : Nat → Bool) : Nat → Nat
  | 0 => 0
  | i + 1 => cntB p i + (if p i then 1 else 0)
def woodN (F : Nat → Nat) : Nat → Nat
  | 0 => 0
  | i + 1 => woodN F i + F i
section T58
variable {g : OG} {d : Nat} {I : IT} {X : XT} {K : Int32 → IT → XT → Prop} {KV : IT → XT → Prop}
variable {n w : Nat} {kd nd wd : Nat → Nat} {F : Nat → Nat} {m f a D : Nat} {dd : Nat → Nat} {S : Nat → Nat → Nat}
theorem cntB_1 {p : Nat → Bool} {i : Nat} (h : p i = true) : cntB p (i + 1) = cntB p i + 1 := by
  show cntB p i + (if p i then 1 else 0) = _
  rw [if_pos h]
theorem cntB_0 {p : Nat → Bool} {i : Nat} (h : ¬ p i = true) : cntB p (i + 1) = cntB p i := by
  show cntB p i + (if p i then 1 else 0) = _
  rw [if_neg h]
  rfl
def peatP (kd : Nat → Nat) (h : Nat) : Bool := decide (kd h = 1 ∨ kd h = 4)
def rowP (I : IT) (h : Nat) : Bool := decide (¬ I 131 h < 0)
def textP (I : IT) (h : Nat) : Bool := decide (¬ I 134 h < 0)
def keptP (I : IT) (h : Nat) : Bool := decide (¬ I 144 h = 0)
def aW (n : Nat) (kd F : Nat → Nat) (x i : Nat) : Nat := if x = 4 then woodN F i else if x = 5 then cntB (peatP kd) i else 0
def aR (I : IT) (x i : Nat) : Nat := if x = 6 then cntB (rowP I) i else 0
def aT (I : IT) (x i : Nat) : Nat := if x = 7 then cntB (textP I) i else 0
def aK (I : IT) (x i : Nat) : Nat := if x = 8 then cntB (keptP I) i else 0
def cntV (I : IT) (n : Nat) (kd F : Nat → Nat) (D x : Nat) : Int32 := if x = 0 then nI n else if x = 1 then nI (F 15) else if x = 2 then nI (F 16) else if x = 3 then nI D else nI (aW n kd F x n + aR I x 6 + aT I x 4 + aK I x 3)
theorem p0 (s : Nat) : nI s + 0 = nI s := nI_add s 0
-- the class
theorem lp_X1_allWood (ha : a ∈ fireL) (h66 : a ≠ 66) (he : iE I n w kd nd wd) (hf : FR I a n F) (hK : K (nI (woodN F n)) I X) : ∀ (q i : Nat), i + q = n → SR g (d + 1) iX1_allWood 4 [(0, rf g a), (1, .int (nI (woodN F i))), (2, .int (nI i))] I X (qI K) := by
  have hn := he.1.2.2
  intro q
  induction q with
  | zero =>
    intro i hi
    obtain rfl : i = n := by omega
    refine rg_X1_allWood_4 ha ?_
    rw [lane24 h66, he.1.1]
    exact ⟨fun _ => hK, fun c => absurd (Int32.le_refl _) c⟩
  | succ q ih =>
    intro i hi
    refine rg_X1_allWood_4 ha ?_
    rw [lane24 h66, he.1.1]
    refine ⟨fun c => absurd c (nI_ge (by omega) (by omega)), fun _ => ⟨vp_in_nI (by omega) (by decide), fun x2 e2 x3 e3 => ?_⟩⟩
    rw [nI_clamp (by omega), (hf.1 i (by omega)).1, nI_add] at e2
    subst e2; subst e3
    rw [nI_1]
    exact ih (i + 1) (by omega)
theorem lp_X3_countOf (he : iE I n w kd nd wd) (hK : K (nI (cntB (peatP kd) n)) I X) : ∀ (q i : Nat), i + q = n → SR g (d + 2) iX3_countOf 4 [(0, rf g 24), (1, .int 1), (2, .int (nI (cntB (peatP kd) i))), (3, .int (nI i))] I X (qI K) := by
  have hn := he.1.2.2
  intro q
  induction q with
  | zero =>
    intro i hi
    obtain rfl : i = n := by omega
    refine rg_X3_countOf_4 (a := 24) (by decide) ?_
    rw [he.1.1]
    exact ⟨fun _ => hK, fun c => absurd (Int32.le_refl _) c⟩
  | succ q ih =>
    intro i hi
    refine rg_X3_countOf_4 (a := 24) (by decide) ?_
    rw [he.1.1]
    have hk := he.2.2.1 i (by omega)
    refine ⟨fun c => absurd c (nI_ge (by omega) (by omega)), fun _ => ⟨vp_in_nI (by omega) (by decide), ?_⟩⟩
    rw [nI_clamp (by omega), show I (24 + 1) i = nI (kd i) from hk.1]
    refine c_X2_isOf (x := 1) hk.2.2 (by decide) (by decide) (fun hi => t_one (fun x7 e7 x8 e8 => ?_)) (fun hi => t_zero (fun x7 e7 x8 e8 => ?_))
    · subst e7; subst e8
      rw [nI_1, nI_1, ← cntB_1 (p := peatP kd) (i := i) (decide_eq_true (by unfold isN at hi; omega))]
      exact ih (i + 1) (by omega)
    · subst e7; subst e8
      rw [p0, nI_1, ← cntB_0 (p := peatP kd) (i := i) (fun y => absurd (of_decide_eq_true y) (by unfold isN at hi; omega))]
      exact ih (i + 1) (by omega)
theorem lp_X10_rowsThere (hr : iR I) (hK : K (nI (cntB (rowP I) 6)) I X) : ∀ (q i : Nat), i + q = 6 → SR g (d + 2) iX10_rowsThere 4 [(0, rf g 1), (1, .int (nI (cntB (rowP I) i))), (2, .int (nI i))] I X (qI K) := by
  intro q
  induction q with
  | zero =>
    intro i hi
    obtain rfl : i = 6 := by omega
    exact rg_X10_rowsThere_4 ⟨fun _ => hK, fun c => absurd (Int32.le_refl _) c⟩
  | succ q ih =>
    intro i hi
    refine rg_X10_rowsThere_4 ⟨fun c => absurd c (nI_ge (a := i) (b := 6) (by omega) (by omega)), fun _ => ⟨vp_in_nI (by omega) (by decide), en_X7_isThere (by rw [nI_clamp (by omega)]; exact rowA_mem (by omega)) ?_⟩⟩
    rw [nI_clamp (by omega), (hr i (by omega)).1]
    refine ⟨fun hi => t_zero (fun x7 e7 x8 e8 => ?_), fun hi => t_one (fun x7 e7 x8 e8 => ?_)⟩
    · subst e7; subst e8
      rw [p0, nI_1, ← cntB_0 (p := rowP I) (i := i) (fun z => of_decide_eq_true z hi)]
      exact ih (i + 1) (by omega)
    · subst e7; subst e8
      rw [nI_1, nI_1, ← cntB_1 (p := rowP I) (i := i) (decide_eq_true hi)]
      exact ih (i + 1) (by omega)
theorem lp_X10_textsThere (hr : iT I) (hK : K (nI (cntB (textP I) 4)) I X) : ∀ (q i : Nat), i + q = 4 → SR g (d + 2) iX10_textsThere 4 [(0, rf g 1), (1, .int (nI (cntB (textP I) i))), (2, .int (nI i))] I X (qI K) := by
  intro q
  induction q with
  | zero =>
    intro i hi
    obtain rfl : i = 4 := by omega
    exact rg_X10_textsThere_4 ⟨fun _ => hK, fun c => absurd (Int32.le_refl _) c⟩
  | succ q ih =>
    intro i hi
    refine rg_X10_textsThere_4 ⟨fun c => absurd c (nI_ge (a := i) (b := 4) (by omega) (by omega)), fun _ => ⟨vp_in_nI (by omega) (by decide), en_X9_isThere (by rw [nI_clamp (by omega)]; exact textA_mem (by omega)) ?_⟩⟩
    rw [nI_clamp (by omega), (hr i (by omega)).1]
    refine ⟨fun hi => t_zero (fun x7 e7 x8 e8 => ?_), fun hi => t_one (fun x7 e7 x8 e8 => ?_)⟩
    · subst e7; subst e8
      rw [p0, nI_1, ← cntB_0 (p := textP I) (i := i) (fun z => of_decide_eq_true z hi)]
      exact ih (i + 1) (by omega)
    · subst e7; subst e8
      rw [nI_1, nI_1, ← cntB_1 (p := textP I) (i := i) (decide_eq_true hi)]
      exact ih (i + 1) (by omega)
theorem lp_X10_keptThere (hr : iK I n kd) (hK : K (nI (cntB (keptP I) 3)) I X) : ∀ (q i : Nat), i + q = 3 → SR g (d + 1) iX10_keptThere 4 [(0, rf g 1), (1, .int (nI (cntB (keptP I) i))), (2, .int (nI i))] I X (qI K) := by
  intro q
  induction q with
  | zero =>
    intro i hi
    obtain rfl : i = 3 := by omega
    exact rg_X10_keptThere_4 ⟨fun _ => hK, fun c => absurd (Int32.le_refl _) c⟩
  | succ q ih =>
    intro i hi
    refine rg_X10_keptThere_4 ⟨fun c => absurd c (nI_ge (a := i) (b := 3) (by omega) (by omega)), fun _ => ⟨vp_in_nI (by omega) (by decide), ?_⟩⟩
    rw [nI_clamp (by omega), (hr i (by omega)).1]
    refine ⟨fun hi x7 e7 x8 e8 => ?_, fun hi x7 e7 x8 e8 => ?_⟩
    · subst e7; subst e8
      rw [p0, nI_1, ← cntB_0 (p := keptP I) (i := i) (fun z => of_decide_eq_true z hi)]
      exact ih (i + 1) (by omega)
    · subst e7; subst e8
      rw [nI_1, nI_1, ← cntB_1 (p := keptP I) (i := i) (decide_eq_true hi)]
      exact ih (i + 1) (by omega)
theorem c_X10_countOf {x : Nat} (hx : x ≤ 8) (h : Inv I X) (hE : iE I n w kd nd wd) (hV : iV I n kd D dd S) (hK : iK I n kd) (hk : K (cntV I n kd (S D) D x) I X) : CI g (d + 3) iX10_countOf [rf g 1, .int (nI x)] I X K := by
  obtain ⟨v1, v2, v3, v4, v5, v6, v7⟩ := id hV
  have hw := v1.2.2.1 D (Nat.le_refl D)
  have h16 := hw.2.2.1
  have e : ∀ y, y ≤ 8 → (nI x = nI y ↔ x = y) := fun y hy => nI_eq (by omega) (by omega)
  have e0 := e 0 (by decide)
  have e1 := e 1 (by decide)
  have e2 := e 2 (by decide)
  have e3 := e 3 (by decide)
  have e4 := e 4 (by decide)
  have e5 := e 5 (by decide)
  have e6 := e 6 (by decide)
  have e7 := e 7 (by decide)
  unfold cntV at hk
  refine en_X10_countOf ⟨fun q => ?_, fun q0 => ⟨fun q => ?_, fun q1 => ⟨fun q => ?_, fun q2 => ⟨fun q => ?_, fun q3 => ⟨fun q => ?_, fun q4 => ⟨fun q => ?_, fun q5 => ⟨fun q => ?_, fun q6 => ⟨fun q => ?_, fun q7 => ?_⟩⟩⟩⟩⟩⟩⟩⟩
  · rw [if_pos (e0.mp q)] at hk
    rw [hE.1.1]; exact hk
  · have := e1.mp q
    subst this
    rw [if_neg (by decide), if_pos rfl] at hk
    rw [v2.2.2.2.2.2.1]; exact hk
  · have := e2.mp q
    subst this
    rw [if_neg (by decide), if_neg (by decide), if_pos rfl] at hk
    rw [v2.2.2.2.2.2.2.1]
    rw [show nI (S D 16) = 0 ↔ S D 16 = 0 from nI_eqL 0 (by omega) (by decide)]
    refine ⟨fun z => ?_, fun z => ?_⟩
    · rw [z] at hk; exact hk
    · rw [show S D 16 = 1 by omega] at hk; exact hk
  · have := e3.mp q
    subst this
    rw [if_neg (by decide), if_neg (by decide), if_neg (by decide), if_pos rfl] at hk
    rw [v2.1]; exact hk
  · have := e4.mp q
    subst this
    exact en_X1_allWood (a := 33) (by decide) (lp_X1_allWood (a := 33) (by decide) (by decide) hE v2.2.2.2 hk n 0 (by omega))
  · have := e5.mp q
    subst this
    exact en_X3_countOf (a := 24) (by decide) (lp_X3_countOf hE hk n 0 (by omega))
  · have := e6.mp q
    subst this
    rw [if_neg (by decide), if_neg (by decide), if_neg (by decide), if_neg (by decide), show aW n kd (S D) 6 n + aR I 6 6 + aT I 6 4 + aK I 6 3 = cntB (rowP I) 6 from Nat.zero_add _] at hk
    exact en_X10_rowsThere (lp_X10_rowsThere h.2.2.2.1 hk 6 0 rfl)
  · have := e7.mp q
    subst this
    rw [if_neg (by decide), if_neg (by decide), if_neg (by decide), if_neg (by decide), show aW n kd (S D) 7 n + aR I 7 6 + aT I 7 4 + aK I 7 3 = cntB (textP I) 4 from Nat.zero_add _] at hk
    exact en_X10_textsThere (lp_X10_textsThere h.2.2.2.2.1 hk 4 0 rfl)
  · have : x = 8 := by
      have := mt e0.mpr q0; have := mt e1.mpr q1; have := mt e2.mpr q2; have := mt e3.mpr q3; have := mt e4.mpr q4; have := mt e5.mpr q5; have := mt e6.mpr q6; have := mt e7.mpr q7
      omega
    subst this
    rw [if_neg (by decide), if_neg (by decide), if_neg (by decide), if_neg (by decide), show aW n kd (S D) 8 n + aR I 8 6 + aT I 8 4 + aK I 8 3 = cntB (keptP I) 3 from Nat.zero_add _] at hk
    exact en_X10_keptThere (lp_X10_keptThere hK hk 3 0 rfl)
-- the model
theorem lp_X11_counted140 {x : Nat} (hx : x ≤ 8) (hE : iE I n w kd nd wd) (hV : iV I n kd D dd S) (hk : K (cntV I n kd (S D) D x) I X) : ∀ (q i : Nat), i + q = 3 → SR g (d + 1) iX11_counted 140 [(0, rf g 129), (1, .int (nI x)), (2, .int (nI (aW n kd (S D) x n + aR I x 6 + aT I x 4 + aK I x i))), (3, .int (nI i))] I X (qI K) := by
  obtain ⟨v1, v2, v3, v4, v5, v6, v7⟩ := id hV
  have e : ∀ y, y ≤ 8 → (nI x = nI y ↔ x = y) := fun y hy => nI_eq (by omega) (by omega)
  have e8 := e 8 (by decide)
  intro q
  induction q with
  | zero =>
    intro i hi
    obtain rfl : i = 3 := by omega
    refine rg_X11_counted_140 ⟨fun _ => ?_, fun c => absurd (Int32.le_refl _) c⟩
    rw [hE.1.2.1, v4, t15, show (16 : Int32).toNatClampNeg = 16 from rfl, v6 15 (by omega), v6 16 (by omega)]
    unfold cntV at hk
    refine ⟨fun q => ?_, fun q0 => ⟨fun q => ?_, fun q1 => ⟨fun q => ?_, fun q2 => ⟨fun q => ?_, fun q3 => ?_⟩⟩⟩⟩
    · rw [if_pos ((e 0 (by decide)).mp q)] at hk; exact hk
    · have := (e 1 (by decide)).mp q
      subst this
      exact ⟨v15, hk⟩
    · have := (e 2 (by decide)).mp q
      subst this
      exact ⟨vp_in_nI (n := 16) (N := 216) (by decide) (by decide), hk⟩
    · have := (e 3 (by decide)).mp q
      subst this
      exact hk
    · rw [if_neg (mt (e 0 (by decide)).mpr q0), if_neg (mt (e 1 (by decide)).mpr q1), if_neg (mt (e 2 (by decide)).mpr q2), if_neg (mt (e 3 (by decide)).mpr q3)] at hk
      exact hk
  | succ q ih =>
    intro i hi
    refine rg_X11_counted_140 ⟨fun c => absurd c (nI_ge (a := i) (b := 3) (by omega) (by omega)), fun _ => ⟨fun z x7 e7 x8 e8' => ?_, fun z => ⟨vp_in_nI (by omega) (by decide), ?_⟩⟩⟩
    · subst e7; subst e8'
      rw [p0, nI_1]
      have hz := mt e8.mpr z
      have := ih (i + 1) (by omega)
      unfold aK at this ⊢
      rw [if_neg hz] at this ⊢
      exact this
    · have hz := e8.mp z
      subst hz
      rw [nI_clamp (by omega)]
      have ih' := ih (i + 1) (by omega)
      refine ⟨fun c x7 e7 x8 e8' => ?_, fun c x7 e7 x8 e8' => ?_⟩
      · subst e7; subst e8'
        rw [p0, nI_1]
        rw [show aK I 8 (i + 1) = aK I 8 i from cntB_0 (p := keptP I) (fun z => of_decide_eq_true z c)] at ih'
        exact ih'
      · subst e7; subst e8'
        rw [nI_1, nI_1]
        rw [show aK I 8 (i + 1) = aK I 8 i + 1 from cntB_1 (p := keptP I) (decide_eq_true c)] at ih'
        exact ih'
theorem lp_X11_counted104 {x : Nat} (hx : x ≤ 8) (hE : iE I n w kd nd wd) (hV : iV I n kd D dd S) (hk : K (cntV I n kd (S D) D x) I X) : ∀ (q i : Nat), i + q = 4 → SR g (d + 1) iX11_counted 104 [(0, rf g 129), (1, .int (nI x)), (2, .int (nI (aW n kd (S D) x n + aR I x 6 + aT I x i))), (3, .int (nI i))] I X (qI K) := by
  have e8 : nI x = nI 7 ↔ x = 7 := nI_eq (by omega) (by omega)
  intro q
  induction q with
  | zero =>
    intro i hi
    obtain rfl : i = 4 := by omega
    refine rg_X11_counted_104 ⟨fun _ => ?_, fun c => absurd (Int32.le_refl _) c⟩
    have := lp_X11_counted140 (g := g) (d := d) hx hE hV hk 3 0 rfl
    rw [show aK I x 0 = 0 by unfold aK; split <;> rfl, Nat.add_zero] at this
    exact this
  | succ q ih =>
    intro i hi
    refine rg_X11_counted_104 ⟨fun c => absurd c (nI_ge (a := i) (b := 4) (by omega) (by omega)), fun _ => ⟨fun z x7 e7 x8 e8' => ?_, fun z => ⟨vp_in_nI (by omega) (by decide), ?_⟩⟩⟩
    · subst e7; subst e8'
      rw [p0, nI_1]
      have hz := mt e8.mpr z
      have := ih (i + 1) (by omega)
      unfold aT at this ⊢
      rw [if_neg hz] at this ⊢
      exact this
    · have hz := e8.mp z
      subst hz
      rw [nI_clamp (by omega)]
      have ih' := ih (i + 1) (by omega)
      refine ⟨fun c x7 e7 x8 e8' => ?_, fun c x7 e7 x8 e8' => ?_⟩
      · subst e7; subst e8'
        rw [p0, nI_1]
        rw [show aT I 7 (i + 1) = aT I 7 i from cntB_0 (p := textP I) (fun z => of_decide_eq_true z c)] at ih'
        exact ih'
      · subst e7; subst e8'
        rw [nI_1, nI_1]
        rw [show aT I 7 (i + 1) = aT I 7 i + 1 from cntB_1 (p := textP I) (decide_eq_true c)] at ih'
        exact ih'
theorem lp_X11_counted67 {x : Nat} (hx : x ≤ 8) (hE : iE I n w kd nd wd) (hV : iV I n kd D dd S) (hk : K (cntV I n kd (S D) D x) I X) : ∀ (q i : Nat), i + q = 6 → SR g (d + 1) iX11_counted 67 [(0, rf g 129), (1, .int (nI x)), (2, .int (nI (aW n kd (S D) x n + aR I x i))), (3, .int (nI i))] I X (qI K) := by
  have e8 : nI x = nI 6 ↔ x = 6 := nI_eq (by omega) (by omega)
  intro q
  induction q with
  | zero =>
    intro i hi
    obtain rfl : i = 6 := by omega
    refine rg_X11_counted_67 ⟨fun _ => ?_, fun c => absurd (Int32.le_refl _) c⟩
    have := lp_X11_counted104 (g := g) (d := d) hx hE hV hk 4 0 rfl
    rw [show aT I x 0 = 0 by unfold aT; split <;> rfl, Nat.add_zero] at this
    exact this
  | succ q ih =>
    intro i hi
    refine rg_X11_counted_67 ⟨fun c => absurd c (nI_ge (a := i) (b := 6) (by omega) (by omega)), fun _ => ⟨fun z x7 e7 x8 e8' => ?_, fun z => ⟨vp_in_nI (by omega) (by decide), ?_⟩⟩⟩
    · subst e7; subst e8'
      rw [p0, nI_1]
      have hz := mt e8.mpr z
      have := ih (i + 1) (by omega)
      unfold aR at this ⊢
      rw [if_neg hz] at this ⊢
      exact this
    · have hz := e8.mp z
      subst hz
      rw [nI_clamp (by omega)]
      have ih' := ih (i + 1) (by omega)
      refine ⟨fun c x7 e7 x8 e8' => ?_, fun c x7 e7 x8 e8' => ?_⟩
      · subst e7; subst e8'
        rw [p0, nI_1]
        rw [show aR I 6 (i + 1) = aR I 6 i from cntB_0 (p := rowP I) (fun z => of_decide_eq_true z c)] at ih'
        exact ih'
      · subst e7; subst e8'
        rw [nI_1, nI_1]
        rw [show aR I 6 (i + 1) = aR I 6 i + 1 from cntB_1 (p := rowP I) (decide_eq_true c)] at ih'
        exact ih'
theorem lp_X11_counted4 {x : Nat} (hx : x ≤ 8) (hE : iE I n w kd nd wd) (hV : iV I n kd D dd S) (hk : K (cntV I n kd (S D) D x) I X) : ∀ (q i : Nat), i + q = n → SR g (d + 1) iX11_counted 4 [(0, rf g 129), (1, .int (nI x)), (2, .int (nI (aW n kd (S D) x i))), (3, .int (nI i))] I X (qI K) := by
  have hn := hE.1.2.2
  obtain ⟨v1, v2, v3, v4, v5, v6, v7⟩ := id hV
  have e4 : nI x = nI 4 ↔ x = 4 := nI_eq (by omega) (by omega)
  have e5 : nI x = nI 5 ↔ x = 5 := nI_eq (by omega) (by omega)
  intro q
  induction q with
  | zero =>
    intro i hi
    obtain rfl : i = n := by omega
    refine rg_X11_counted_4 ?_
    rw [hE.1.2.1]
    refine ⟨fun _ => ?_, fun c => absurd (Int32.le_refl _) c⟩
    have := lp_X11_counted67 (g := g) (d := d) hx hE hV hk 6 0 rfl
    rw [show aR I x 0 = 0 by unfold aR; split <;> rfl, Nat.add_zero] at this
    exact this
  | succ q ih =>
    intro i hi
    have ih' := ih (i + 1) (by omega)
    have hk1 := hE.2.2.1 i (by omega)
    have hk5 := hk1.2.2
    refine rg_X11_counted_4 ?_
    rw [hE.1.2.1, nI_clamp (by omega), hk1.2.1, v6 i (by omega)]
    rw [show nI (kd i) = 1 ↔ kd i = 1 from nI_eqL 1 (by omega) (by decide), show nI (kd i) = 4 ↔ kd i = 4 from nI_eqL 4 (by omega) (by decide)]
    refine ⟨fun c => absurd c (nI_ge (by omega) (by omega)), fun _ => ⟨fun z4 => ⟨fun z5 x1 e1 x2 e2 => ?_, fun z5 => ⟨vp_in_nI (by omega) (by decide), fun c x1 e1 x2 e2 => ?_, fun c => ⟨vp_in_nI (by omega) (by decide), fun c2 x1 e1 x2 e2 => ?_, fun c2 x1 e1 x2 e2 => ?_⟩⟩⟩, fun z4 => ⟨vp_in_nI (by omega) (by decide), fun x1 e1 x2 e2 => ?_⟩⟩⟩
    · subst e1; subst e2
      rw [p0, nI_1]
      unfold aW at ih' ⊢
      rw [if_neg (mt e4.mpr z4), if_neg (mt e5.mpr z5)] at ih' ⊢
      exact ih'
    · subst e1; subst e2
      have := e5.mp z5
      subst this
      rw [nI_1, nI_1]
      rw [show aW n kd (S D) 5 (i + 1) = aW n kd (S D) 5 i + 1 from cntB_1 (p := peatP kd) (decide_eq_true (Or.inl c))] at ih'
      exact ih'
    · subst e1; subst e2
      have := e5.mp z5
      subst this
      rw [p0, nI_1]
      rw [show aW n kd (S D) 5 (i + 1) = aW n kd (S D) 5 i from cntB_0 (p := peatP kd) (fun z => (of_decide_eq_true z).elim c c2)] at ih'
      exact ih'
    · subst e1; subst e2
      have := e5.mp z5
      subst this
      rw [nI_1, nI_1]
      rw [show aW n kd (S D) 5 (i + 1) = aW n kd (S D) 5 i + 1 from cntB_1 (p := peatP kd) (decide_eq_true (Or.inr c2))] at ih'
      exact ih'
    · subst e1; subst e2
      have := e4.mp z4
      subst this
      rw [nI_add, nI_1]
      exact ih'
theorem c_X11_counted {x : Nat} (hx : x ≤ 8) (hE : iE I n w kd nd wd) (hV : iV I n kd D dd S) (hk : K (cntV I n kd (S D) D x) I X) : CI g (d + 1) iX11_counted [rf g 129, .int (nI x)] I X K := by
  have := lp_X11_counted4 (g := g) (d := d) hx hE hV hk n 0 (by omega)
  rw [show aW n kd (S D) x 0 = 0 by unfold aW; split; · rfl
                                    · split <;> rfl] at this
  exact en_X11_counted this
theorem op_count {v : Int32} (h : Inv I X) : PairI g (d + 4) iX10_count iX11_count [.int v] I X := by
  obtain ⟨n, w, kd, nd, wd, D, dd, S, hE, hV, hK⟩ := h.2.2.2.2.2
  by_cases hv : vp_in v 9
  · obtain ⟨x, hx, rfl⟩ := vp_in_of hv (by decide)
    have hin : (0 : Int32) ≤ nI x ∧ nI x ≤ 8 := (inB (n := 8) (by decide)).mpr hv
    refine en_X10_count ⟨fun c => absurd c (nI_pos (by omega)), fun _ => ⟨fun _ => ?_, fun c => absurd (Int32.not_le.mp (nI_ge (a := x) (b := 9) (by omega) (by decide))) c⟩⟩
    refine c_X10_countOf (by omega) h hE hV hK ?_
    exact en_X11_count (c_X11_in (fun _ => t_one (c_X11_counted (by omega) hE hV ⟨rfl, h⟩)) (fun z => absurd hin z))
  · have hm : CI g (d + 4) iX11_count [rf g 129, .int v] I X (fun r' I2 X2 => r' = -1 ∧ Inv I2 X2) :=
      en_X11_count (c_X11_in (fun z => absurd ((inB (n := 8) (by decide)).mp z) hv) (fun _ => t_zero ⟨rfl, h⟩))
    refine en_X10_count ⟨fun _ => hm, fun c => ⟨fun c2 => ?_, fun _ => hm⟩⟩
    exact absurd ((vin_nI (z := 9) (by decide)).mpr ⟨c, Int32.not_le.mpr c2⟩) hv
end T58

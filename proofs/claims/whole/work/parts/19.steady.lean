def tgT : List Nat := [99, 9, 14, 6, 11, 6, 11, 6, 11, 6, 11, 6, 11, 6, 11, 15, 8, 12, 8, 12, 8, 12, 8, 12, 2, 11, 11, 11, 0, 11, 1, 11, 11, 1, 11, 11, 16, 0, 11, 1, 11, 11, 1, 11, 11, 0, 11, 1, 11, 11, 1, 11, 11, 0, 11, 1, 11, 11, 1, 11, 11, 5, 2, 11, 11, 11, 1, 11, 11, 1, 11, 11, 4, 17, 11, 11, 1, 11, 11, 1, 11, 11, 1, 11, 11, 1, 11, 11, 1, 11, 11, 7, 17, 1, 11, 11, 1, 11, 11, 1, 11, 11, 1, 11, 11, 1, 11, 11, 1, 11, 11, 3, 17, 1, 11, 11, 1, 11, 11, 1, 11, 11, 1, 11, 11, 1, 11, 11, 11, 10, 11, 11, 11, 11, 11, 12, 11, 11, 11, 11, 11, 11, 11, 11, 13, 11, 11, 11, 11, 11, 11]
def lnT : List Nat := [0, 0, 6, 0, 40, 0, 40, 0, 40, 0, 40, 0, 40, 0, 40, 4, 0, 60, 0, 60, 0, 60, 0, 60, 0, 5, 5, 6, 0, 40, 0, 5, 5, 0, 5, 5, 3, 0, 40, 0, 5, 5, 0, 5, 5, 0, 40, 0, 5, 5, 0, 5, 5, 0, 40, 0, 5, 5, 0, 5, 5, 0, 0, 5, 5, 6, 0, 5, 5, 0, 5, 5, 0, 5, 4, 4, 0, 5, 5, 0, 5, 5, 0, 5, 5, 0, 5, 5, 0, 5, 5, 0, 6, 0, 5, 5, 0, 5, 5, 0, 5, 5, 0, 5, 5, 0, 5, 5, 0, 5, 5, 0, 5, 0, 5, 5, 0, 5, 5, 0, 5, 5, 0, 5, 5, 0, 5, 5, 6, 0, 6, 6, 240, 40, 4, 240, 6, 5, 5, 6, 20, 18, 216, 720, 3, 3, 54, 54, 2160, 10, 10]
def rT : List (List Nat) := [[], [2, 15, 24, 28, 36, 61, 62, 66, 69, 72, 91, 111, 128, 0, 0, 0, 0], [3, 5, 7, 9, 11, 13], [4, 0], [], [6, 0], [], [8, 0], [], [10, 0], [], [12, 0], [], [14, 0], [], [16, 18, 20, 22], [17, 0], [], [19, 0], [], [21, 0], [], [23, 0], [], [25, 26, 27, 0, 0], [], [], [], [30, 33, 29, 0, 0], [], [24, 31, 32, 0, 0, 0, 0], [], [], [24, 34, 35, 0, 0, 0, 0], [], [], [37, 45, 53], [39, 42, 38, 0, 0], [], [24, 40, 41, 0, 0, 0, 0], [], [], [24, 43, 44, 0, 0, 0, 0], [], [], [47, 50, 46, 0, 0], [], [24, 48, 49, 0, 0, 0, 0], [], [], [24, 51, 52, 0, 0, 0, 0], [], [], [55, 58, 54, 0, 0], [], [24, 56, 57, 0, 0, 0, 0], [], [], [24, 59, 60, 0, 0, 0, 0], [], [], [], [63, 64, 65, 0, 0], [], [], [], [62, 67, 68, 0, 0, 0, 0], [], [], [24, 70, 71, 0, 0, 0, 0], [], [], [73, 74, 75, 0, 0, 0, 0, 0, 0, 0], [76, 79, 82, 85, 88], [], [], [24, 77, 78, 0, 0, 0, 0], [], [], [24, 80, 81, 0, 0, 0, 0], [], [], [24, 83, 84, 0, 0, 0, 0], [], [], [24, 86, 87, 0, 0, 0, 0], [], [], [24, 89, 90, 0, 0, 0, 0], [], [], [24, 92, 0, 0, 0], [93, 96, 99, 102, 105, 108], [24, 94, 95, 0, 0, 0, 0], [], [], [24, 97, 98, 0, 0, 0, 0], [], [], [24, 100, 101, 0, 0, 0, 0], [], [], [24, 103, 104, 0, 0, 0, 0], [], [], [24, 106, 107, 0, 0, 0, 0], [], [], [24, 109, 110, 0, 0, 0, 0], [], [], [112, 0, 0, 0, 0, 0], [113, 116, 119, 122, 125], [24, 114, 115, 0, 0, 0, 0], [], [], [24, 117, 118, 0, 0, 0, 0], [], [], [24, 120, 121, 0, 0, 0, 0], [], [], [24, 123, 124, 0, 0, 0, 0], [], [], [24, 126, 127, 0, 0, 0, 0], [], [], [], [0, 130, 0, 0, 0, 131, 132, 133, 134, 135, 0, 0, 136, 137, 138, 0, 0, 0, 139, 140, 141, 142, 0, 143, 144, 145, 146, 147, 148, 149, 150, 0, 0, 0, 0, 0, 0, 0], [], [], [], [], [], [], [], [], [], [], [], [], [], [], [], [], [], [], [], [], []]
abbrev IT : Type := Nat → Nat → Int32
abbrev XT : Type := (Nat → Nat → Int64) × Nat × Nat
def SH : Nat × (Nat → Nat) × (Nat → Nat) := (150, fun a => tgT.getD a 99, fun a => lnT.getD a 0)
def R0 (a k : Nat) : Nat := (rT.getD a []).getD k 0
/-- the references as they stay, but for Smoke.book and Odds.plan -/
def Rof (bk pl : Nat) : Nat → Nat → Nat := fun a => if a = 91 then va_up (R0 91) 2 bk else if a = 111 then va_up (R0 111) 1 pl else R0 a
def stH (I : IT) (X : XT) : OH := (SH, I, X.1, Rof X.2.1 X.2.2)
def setRow (I : IT) (a : Nat) (f : Nat → Int32) : IT := fun b => if b = a then f else I b
theorem Rof_bk (bk pl v : Nat) : set2R (Rof bk pl) 91 2 v = Rof v pl := by
  funext b k
  unfold set2R Rof va_up
  by_cases h : b = 91
  · subst h
    simp only [if_true]
    by_cases hk : k = 2
    · simp [hk]
    · simp [hk]
  · simp [h]
theorem Rof_pl (bk pl v : Nat) : set2R (Rof bk pl) 111 1 v = Rof bk v := by
  funext b k
  unfold set2R Rof va_up
  by_cases h : b = 111
  · subst h
    by_cases hk : k = 1
    · simp [hk]
    · simp [hk]
  · simp [h]
def qI (K : Int32 → IT → XT → Prop) : OQ := QI (fun r h' => ∃ I' X', h' = stH I' X' ∧ K r I' X')
def qL (K : Int64 → IT → XT → Prop) : OQ := QL (fun r h' => ∃ I' X', h' = stH I' X' ∧ K r I' X')
def qV (K : IT → XT → Prop) : OQ := QV (fun h' => ∃ I' X', h' = stH I' X' ∧ K I' X')
abbrev CI (g : OG) (d : Nat) (mi : MI) (args : List Value) (I : IT) (X : XT) (K : Int32 → IT → XT → Prop) : Prop := OCall g d 0 0 mi args (stH I X) (qI K)
abbrev CL (g : OG) (d : Nat) (mi : MI) (args : List Value) (I : IT) (X : XT) (K : Int64 → IT → XT → Prop) : Prop := OCall g d 0 0 mi args (stH I X) (qL K)
abbrev CV (g : OG) (d : Nat) (mi : MI) (args : List Value) (I : IT) (X : XT) (K : IT → XT → Prop) : Prop := OCall g d 0 0 mi args (stH I X) (qV K)
abbrev SR (g : OG) (d : Nat) (mi : MI) (pc : Nat) (lv : List (Nat × Value)) (I : IT) (X : XT) (Q : OQ) : Prop := ORuns g d 0 0 mi pc lv [] (stH I X) Q
abbrev rf (g : OG) (a : Nat) : Value := .ref (og_b g + a)
def rowL : List Nat := [3, 5, 7, 9, 11, 13]
def textL : List Nat := [16, 18, 20, 22]
def laneL : List Nat := [24, 62]
def campL : List Nat := [28, 37, 45, 53]
def fireL : List Nat := [30, 33, 39, 42, 47, 50, 55, 58, 66, 69, 76, 79, 82, 85, 88, 93, 96, 99, 102, 105, 108, 113, 116, 119, 122, 125]
def laneOf (a : Nat) : Nat := if a = 66 then 62 else 24
def rowA (i : Nat) : Nat := 3 + 2 * i
def textA (i : Nat) : Nat := 16 + 2 * i
def keptA (i : Nat) : Nat := 37 + 8 * i
def plvA (i : Nat) : Nat := 76 + 3 * i
def slvA (i : Nat) : Nat := 93 + 3 * i
def olvA (i : Nat) : Nat := 113 + 3 * i
theorem st_obj {I : IT} {X : XT} {a ci : Nat} (h : (1 ≤ a ∧ a ≤ 150) ∧ tgT.getD a 99 = ci) : IsObj (stH I X) a ci := h
theorem st_arr {I : IT} {X : XT} {a t z : Nat} (h : (1 ≤ a ∧ a ≤ 150) ∧ tgT.getD a 99 = t ∧ lnT.getD a 0 = z) : IsArr (stH I X) a t z := h
theorem row_o_all : ∀ a ∈ rowL, (1 ≤ a ∧ a ≤ 150) ∧ tgT.getD a 99 = 6 := by decide
theorem row_o {I : IT} {X : XT} {a : Nat} (h : a ∈ rowL) : IsObj (stH I X) a 6 := st_obj (row_o_all a h)
theorem text_o_all : ∀ a ∈ textL, (1 ≤ a ∧ a ≤ 150) ∧ tgT.getD a 99 = 8 := by decide
theorem text_o {I : IT} {X : XT} {a : Nat} (h : a ∈ textL) : IsObj (stH I X) a 8 := st_obj (text_o_all a h)
theorem lane_o_all : ∀ a ∈ laneL, (1 ≤ a ∧ a ≤ 150) ∧ tgT.getD a 99 = 2 := by decide
theorem lane_o {I : IT} {X : XT} {a : Nat} (h : a ∈ laneL) : IsObj (stH I X) a 2 := st_obj (lane_o_all a h)
theorem camp_o_all : ∀ a ∈ campL, (1 ≤ a ∧ a ≤ 150) ∧ tgT.getD a 99 = 0 := by decide
theorem camp_o {I : IT} {X : XT} {a : Nat} (h : a ∈ campL) : IsObj (stH I X) a 0 := st_obj (camp_o_all a h)
theorem fire_o_all : ∀ a ∈ fireL, (1 ≤ a ∧ a ≤ 150) ∧ tgT.getD a 99 = 1 := by decide
theorem fire_o {I : IT} {X : XT} {a : Nat} (h : a ∈ fireL) : IsObj (stH I X) a 1 := st_obj (fire_o_all a h)
theorem row_a0_all : ∀ a ∈ rowL, (1 ≤ a + 1 ∧ a + 1 ≤ 150) ∧ tgT.getD (a + 1) 99 = 11 ∧ lnT.getD (a + 1) 0 = 40 := by decide
theorem row_a0 {I : IT} {X : XT} {a : Nat} (h : a ∈ rowL) : IsArr (stH I X) (a + 1) 11 40 := st_arr (row_a0_all a h)
theorem row_r0_all : ∀ a ∈ rowL, a ≠ 91 ∧ a ≠ 111 ∧ R0 a 0 = a + 1 := by decide
theorem row_r0 {I : IT} {X : XT} {a : Nat} (h : a ∈ rowL) : oh_R (stH I X) a 0 = a + 1 := by
  obtain ⟨h1, h2, h3⟩ := row_r0_all a h
  show Rof _ _ a 0 = _
  unfold Rof
  rw [if_neg h1, if_neg h2, h3]
theorem row_n0_all : ∀ a ∈ rowL, a + 1 ≠ 0 := by decide
theorem row_n0 {a : Nat} (h : a ∈ rowL) : a + 1 ≠ 0 := row_n0_all a h
theorem text_a0_all : ∀ a ∈ textL, (1 ≤ a + 1 ∧ a + 1 ≤ 150) ∧ tgT.getD (a + 1) 99 = 12 ∧ lnT.getD (a + 1) 0 = 60 := by decide
theorem text_a0 {I : IT} {X : XT} {a : Nat} (h : a ∈ textL) : IsArr (stH I X) (a + 1) 12 60 := st_arr (text_a0_all a h)
theorem text_r0_all : ∀ a ∈ textL, a ≠ 91 ∧ a ≠ 111 ∧ R0 a 0 = a + 1 := by decide
theorem text_r0 {I : IT} {X : XT} {a : Nat} (h : a ∈ textL) : oh_R (stH I X) a 0 = a + 1 := by
  obtain ⟨h1, h2, h3⟩ := text_r0_all a h
  show Rof _ _ a 0 = _
  unfold Rof
  rw [if_neg h1, if_neg h2, h3]
theorem text_n0_all : ∀ a ∈ textL, a + 1 ≠ 0 := by decide
theorem text_n0 {a : Nat} (h : a ∈ textL) : a + 1 ≠ 0 := text_n0_all a h
theorem lane_a0_all : ∀ a ∈ laneL, (1 ≤ a + 1 ∧ a + 1 ≤ 150) ∧ tgT.getD (a + 1) 99 = 11 ∧ lnT.getD (a + 1) 0 = 5 := by decide
theorem lane_a0 {I : IT} {X : XT} {a : Nat} (h : a ∈ laneL) : IsArr (stH I X) (a + 1) 11 5 := st_arr (lane_a0_all a h)
theorem lane_r0_all : ∀ a ∈ laneL, a ≠ 91 ∧ a ≠ 111 ∧ R0 a 0 = a + 1 := by decide
theorem lane_r0 {I : IT} {X : XT} {a : Nat} (h : a ∈ laneL) : oh_R (stH I X) a 0 = a + 1 := by
  obtain ⟨h1, h2, h3⟩ := lane_r0_all a h
  show Rof _ _ a 0 = _
  unfold Rof
  rw [if_neg h1, if_neg h2, h3]
theorem lane_n0_all : ∀ a ∈ laneL, a + 1 ≠ 0 := by decide
theorem lane_n0 {a : Nat} (h : a ∈ laneL) : a + 1 ≠ 0 := lane_n0_all a h
theorem lane_a1_all : ∀ a ∈ laneL, (1 ≤ a + 2 ∧ a + 2 ≤ 150) ∧ tgT.getD (a + 2) 99 = 11 ∧ lnT.getD (a + 2) 0 = 5 := by decide
theorem lane_a1 {I : IT} {X : XT} {a : Nat} (h : a ∈ laneL) : IsArr (stH I X) (a + 2) 11 5 := st_arr (lane_a1_all a h)
theorem lane_r1_all : ∀ a ∈ laneL, a ≠ 91 ∧ a ≠ 111 ∧ R0 a 1 = a + 2 := by decide
theorem lane_r1 {I : IT} {X : XT} {a : Nat} (h : a ∈ laneL) : oh_R (stH I X) a 1 = a + 2 := by
  obtain ⟨h1, h2, h3⟩ := lane_r1_all a h
  show Rof _ _ a 1 = _
  unfold Rof
  rw [if_neg h1, if_neg h2, h3]
theorem lane_n1_all : ∀ a ∈ laneL, a + 2 ≠ 0 := by decide
theorem lane_n1 {a : Nat} (h : a ∈ laneL) : a + 2 ≠ 0 := lane_n1_all a h
theorem lane_a2_all : ∀ a ∈ laneL, (1 ≤ a + 3 ∧ a + 3 ≤ 150) ∧ tgT.getD (a + 3) 99 = 11 ∧ lnT.getD (a + 3) 0 = 6 := by decide
theorem lane_a2 {I : IT} {X : XT} {a : Nat} (h : a ∈ laneL) : IsArr (stH I X) (a + 3) 11 6 := st_arr (lane_a2_all a h)
theorem lane_r2_all : ∀ a ∈ laneL, a ≠ 91 ∧ a ≠ 111 ∧ R0 a 2 = a + 3 := by decide
theorem lane_r2 {I : IT} {X : XT} {a : Nat} (h : a ∈ laneL) : oh_R (stH I X) a 2 = a + 3 := by
  obtain ⟨h1, h2, h3⟩ := lane_r2_all a h
  show Rof _ _ a 2 = _
  unfold Rof
  rw [if_neg h1, if_neg h2, h3]
theorem lane_n2_all : ∀ a ∈ laneL, a + 3 ≠ 0 := by decide
theorem lane_n2 {a : Nat} (h : a ∈ laneL) : a + 3 ≠ 0 := lane_n2_all a h
theorem fire_r0_all : ∀ a ∈ fireL, a ≠ 91 ∧ a ≠ 111 ∧ R0 a 0 = laneOf a := by decide
theorem fire_r0 {I : IT} {X : XT} {a : Nat} (h : a ∈ fireL) : oh_R (stH I X) a 0 = laneOf a := by
  obtain ⟨h1, h2, h3⟩ := fire_r0_all a h
  show Rof _ _ a 0 = _
  unfold Rof
  rw [if_neg h1, if_neg h2, h3]
theorem fire_n0_all : ∀ a ∈ fireL, laneOf a ≠ 0 := by decide
theorem fire_n0 {a : Nat} (h : a ∈ fireL) : laneOf a ≠ 0 := fire_n0_all a h
theorem fire_a1_all : ∀ a ∈ fireL, (1 ≤ a + 1 ∧ a + 1 ≤ 150) ∧ tgT.getD (a + 1) 99 = 11 ∧ lnT.getD (a + 1) 0 = 5 := by decide
theorem fire_a1 {I : IT} {X : XT} {a : Nat} (h : a ∈ fireL) : IsArr (stH I X) (a + 1) 11 5 := st_arr (fire_a1_all a h)
theorem fire_r1_all : ∀ a ∈ fireL, a ≠ 91 ∧ a ≠ 111 ∧ R0 a 1 = a + 1 := by decide
theorem fire_r1 {I : IT} {X : XT} {a : Nat} (h : a ∈ fireL) : oh_R (stH I X) a 1 = a + 1 := by
  obtain ⟨h1, h2, h3⟩ := fire_r1_all a h
  show Rof _ _ a 1 = _
  unfold Rof
  rw [if_neg h1, if_neg h2, h3]
theorem fire_n1_all : ∀ a ∈ fireL, a + 1 ≠ 0 := by decide
theorem fire_n1 {a : Nat} (h : a ∈ fireL) : a + 1 ≠ 0 := fire_n1_all a h
theorem fire_a2_all : ∀ a ∈ fireL, (1 ≤ a + 2 ∧ a + 2 ≤ 150) ∧ tgT.getD (a + 2) 99 = 11 ∧ lnT.getD (a + 2) 0 = 5 := by decide
theorem fire_a2 {I : IT} {X : XT} {a : Nat} (h : a ∈ fireL) : IsArr (stH I X) (a + 2) 11 5 := st_arr (fire_a2_all a h)
theorem fire_r2_all : ∀ a ∈ fireL, a ≠ 91 ∧ a ≠ 111 ∧ R0 a 2 = a + 2 := by decide
theorem fire_r2 {I : IT} {X : XT} {a : Nat} (h : a ∈ fireL) : oh_R (stH I X) a 2 = a + 2 := by
  obtain ⟨h1, h2, h3⟩ := fire_r2_all a h
  show Rof _ _ a 2 = _
  unfold Rof
  rw [if_neg h1, if_neg h2, h3]
theorem fire_n2_all : ∀ a ∈ fireL, a + 2 ≠ 0 := by decide
theorem fire_n2 {a : Nat} (h : a ∈ fireL) : a + 2 ≠ 0 := fire_n2_all a h
theorem camp_r0_all : ∀ a ∈ campL, a ≠ 91 ∧ a ≠ 111 ∧ R0 a 0 = a + 2 := by decide
theorem camp_r0 {I : IT} {X : XT} {a : Nat} (h : a ∈ campL) : oh_R (stH I X) a 0 = a + 2 := by
  obtain ⟨h1, h2, h3⟩ := camp_r0_all a h
  show Rof _ _ a 0 = _
  unfold Rof
  rw [if_neg h1, if_neg h2, h3]
theorem camp_n0_all : ∀ a ∈ campL, a + 2 ≠ 0 := by decide
theorem camp_n0 {a : Nat} (h : a ∈ campL) : a + 2 ≠ 0 := camp_n0_all a h
theorem camp_r1_all : ∀ a ∈ campL, a ≠ 91 ∧ a ≠ 111 ∧ R0 a 1 = a + 5 := by decide
theorem camp_r1 {I : IT} {X : XT} {a : Nat} (h : a ∈ campL) : oh_R (stH I X) a 1 = a + 5 := by
  obtain ⟨h1, h2, h3⟩ := camp_r1_all a h
  show Rof _ _ a 1 = _
  unfold Rof
  rw [if_neg h1, if_neg h2, h3]
theorem camp_n1_all : ∀ a ∈ campL, a + 5 ≠ 0 := by decide
theorem camp_n1 {a : Nat} (h : a ∈ campL) : a + 5 ≠ 0 := camp_n1_all a h
theorem camp_a2_all : ∀ a ∈ campL, (1 ≤ a + 1 ∧ a + 1 ≤ 150) ∧ tgT.getD (a + 1) 99 = 11 ∧ lnT.getD (a + 1) 0 = 40 := by decide
theorem camp_a2 {I : IT} {X : XT} {a : Nat} (h : a ∈ campL) : IsArr (stH I X) (a + 1) 11 40 := st_arr (camp_a2_all a h)
theorem camp_r2_all : ∀ a ∈ campL, a ≠ 91 ∧ a ≠ 111 ∧ R0 a 2 = a + 1 := by decide
theorem camp_r2 {I : IT} {X : XT} {a : Nat} (h : a ∈ campL) : oh_R (stH I X) a 2 = a + 1 := by
  obtain ⟨h1, h2, h3⟩ := camp_r2_all a h
  show Rof _ _ a 2 = _
  unfold Rof
  rw [if_neg h1, if_neg h2, h3]
theorem camp_n2_all : ∀ a ∈ campL, a + 1 ≠ 0 := by decide
theorem camp_n2 {a : Nat} (h : a ∈ campL) : a + 1 ≠ 0 := camp_n2_all a h
theorem fire_lane {a : Nat} (h : a ∈ fireL) : laneOf a ∈ laneL := by
  have : ∀ a ∈ fireL, laneOf a ∈ laneL := by decide
  exact this a h
theorem camp_first {a : Nat} (h : a ∈ campL) : a + 2 ∈ fireL := by
  have : ∀ a ∈ campL, a + 2 ∈ fireL := by decide
  exact this a h
theorem camp_now {a : Nat} (h : a ∈ campL) : a + 5 ∈ fireL := by
  have : ∀ a ∈ campL, a + 5 ∈ fireL := by decide
  exact this a h
theorem row_el_all : ∀ i < 6, R0 2 i = rowA i ∧ rowA i ∈ rowL ∧ rowA i ≠ 0 := by decide
theorem vin_lt_row {x : Int32} (h : vp_in x 6) : x.toNatClampNeg < 6 := Nat.not_le.mp fun q => h (Or.inr q)
theorem row_el {I : IT} {X : XT} {x : Int32} (h : vp_in x 6) : oh_R (stH I X) 2 x.toNatClampNeg = rowA x.toNatClampNeg := (by
  show Rof X.2.1 X.2.2 2 x.toNatClampNeg = _
  unfold Rof
  rw [if_neg (by decide), if_neg (by decide), (row_el_all _ (vin_lt_row h)).1])
theorem row_mem {x : Int32} (h : vp_in x 6) : rowA x.toNatClampNeg ∈ rowL := (row_el_all _ (vin_lt_row h)).2.1
theorem row_nz {x : Int32} (h : vp_in x 6) : rowA x.toNatClampNeg ≠ 0 := (row_el_all _ (vin_lt_row h)).2.2
theorem text_el_all : ∀ i < 4, R0 15 i = textA i ∧ textA i ∈ textL ∧ textA i ≠ 0 := by decide
theorem vin_lt_text {x : Int32} (h : vp_in x 4) : x.toNatClampNeg < 4 := Nat.not_le.mp fun q => h (Or.inr q)
theorem text_el {I : IT} {X : XT} {x : Int32} (h : vp_in x 4) : oh_R (stH I X) 15 x.toNatClampNeg = textA x.toNatClampNeg := (by
  show Rof X.2.1 X.2.2 15 x.toNatClampNeg = _
  unfold Rof
  rw [if_neg (by decide), if_neg (by decide), (text_el_all _ (vin_lt_text h)).1])
theorem text_mem {x : Int32} (h : vp_in x 4) : textA x.toNatClampNeg ∈ textL := (text_el_all _ (vin_lt_text h)).2.1
theorem text_nz {x : Int32} (h : vp_in x 4) : textA x.toNatClampNeg ≠ 0 := (text_el_all _ (vin_lt_text h)).2.2
theorem kept_el_all : ∀ i < 3, R0 36 i = keptA i ∧ keptA i ∈ campL ∧ keptA i ≠ 0 := by decide
theorem vin_lt_kept {x : Int32} (h : vp_in x 3) : x.toNatClampNeg < 3 := Nat.not_le.mp fun q => h (Or.inr q)
theorem kept_el {I : IT} {X : XT} {x : Int32} (h : vp_in x 3) : oh_R (stH I X) 36 x.toNatClampNeg = keptA x.toNatClampNeg := (by
  show Rof X.2.1 X.2.2 36 x.toNatClampNeg = _
  unfold Rof
  rw [if_neg (by decide), if_neg (by decide), (kept_el_all _ (vin_lt_kept h)).1])
theorem kept_mem {x : Int32} (h : vp_in x 3) : keptA x.toNatClampNeg ∈ campL := (kept_el_all _ (vin_lt_kept h)).2.1
theorem kept_nz {x : Int32} (h : vp_in x 3) : keptA x.toNatClampNeg ≠ 0 := (kept_el_all _ (vin_lt_kept h)).2.2
theorem plv_el_all : ∀ i < 5, R0 73 i = plvA i ∧ plvA i ∈ fireL ∧ plvA i ≠ 0 := by decide
theorem vin_lt_plv {x : Int32} (h : vp_in x 5) : x.toNatClampNeg < 5 := Nat.not_le.mp fun q => h (Or.inr q)
theorem plv_el {I : IT} {X : XT} {x : Int32} (h : vp_in x 5) : oh_R (stH I X) 73 x.toNatClampNeg = plvA x.toNatClampNeg := (by
  show Rof X.2.1 X.2.2 73 x.toNatClampNeg = _
  unfold Rof
  rw [if_neg (by decide), if_neg (by decide), (plv_el_all _ (vin_lt_plv h)).1])
theorem plv_mem {x : Int32} (h : vp_in x 5) : plvA x.toNatClampNeg ∈ fireL := (plv_el_all _ (vin_lt_plv h)).2.1
theorem plv_nz {x : Int32} (h : vp_in x 5) : plvA x.toNatClampNeg ≠ 0 := (plv_el_all _ (vin_lt_plv h)).2.2
theorem slv_el_all : ∀ i < 6, R0 92 i = slvA i ∧ slvA i ∈ fireL ∧ slvA i ≠ 0 := by decide
theorem vin_lt_slv {x : Int32} (h : vp_in x 6) : x.toNatClampNeg < 6 := Nat.not_le.mp fun q => h (Or.inr q)
theorem slv_el {I : IT} {X : XT} {x : Int32} (h : vp_in x 6) : oh_R (stH I X) 92 x.toNatClampNeg = slvA x.toNatClampNeg := (by
  show Rof X.2.1 X.2.2 92 x.toNatClampNeg = _
  unfold Rof
  rw [if_neg (by decide), if_neg (by decide), (slv_el_all _ (vin_lt_slv h)).1])
theorem slv_mem {x : Int32} (h : vp_in x 6) : slvA x.toNatClampNeg ∈ fireL := (slv_el_all _ (vin_lt_slv h)).2.1
theorem slv_nz {x : Int32} (h : vp_in x 6) : slvA x.toNatClampNeg ≠ 0 := (slv_el_all _ (vin_lt_slv h)).2.2
theorem olv_el_all : ∀ i < 5, R0 112 i = olvA i ∧ olvA i ∈ fireL ∧ olvA i ≠ 0 := by decide
theorem vin_lt_olv {x : Int32} (h : vp_in x 5) : x.toNatClampNeg < 5 := Nat.not_le.mp fun q => h (Or.inr q)
theorem olv_el {I : IT} {X : XT} {x : Int32} (h : vp_in x 5) : oh_R (stH I X) 112 x.toNatClampNeg = olvA x.toNatClampNeg := (by
  show Rof X.2.1 X.2.2 112 x.toNatClampNeg = _
  unfold Rof
  rw [if_neg (by decide), if_neg (by decide), (olv_el_all _ (vin_lt_olv h)).1])
theorem olv_mem {x : Int32} (h : vp_in x 5) : olvA x.toNatClampNeg ∈ fireL := (olv_el_all _ (vin_lt_olv h)).2.1
theorem olv_nz {x : Int32} (h : vp_in x 5) : olvA x.toNatClampNeg ≠ 0 := (olv_el_all _ (vin_lt_olv h)).2.2
theorem so_1 {I : IT} {X : XT} : IsObj (stH I X) 1 9 := st_obj (by decide)
theorem sa_2 {I : IT} {X : XT} : IsArr (stH I X) 2 14 6 := st_arr (by decide)
theorem so_3 {I : IT} {X : XT} : IsObj (stH I X) 3 6 := st_obj (by decide)
theorem sa_4 {I : IT} {X : XT} : IsArr (stH I X) 4 11 40 := st_arr (by decide)
theorem so_5 {I : IT} {X : XT} : IsObj (stH I X) 5 6 := st_obj (by decide)
theorem sa_6 {I : IT} {X : XT} : IsArr (stH I X) 6 11 40 := st_arr (by decide)
theorem so_7 {I : IT} {X : XT} : IsObj (stH I X) 7 6 := st_obj (by decide)
theorem sa_8 {I : IT} {X : XT} : IsArr (stH I X) 8 11 40 := st_arr (by decide)
theorem so_9 {I : IT} {X : XT} : IsObj (stH I X) 9 6 := st_obj (by decide)
theorem sa_10 {I : IT} {X : XT} : IsArr (stH I X) 10 11 40 := st_arr (by decide)
theorem so_11 {I : IT} {X : XT} : IsObj (stH I X) 11 6 := st_obj (by decide)
theorem sa_12 {I : IT} {X : XT} : IsArr (stH I X) 12 11 40 := st_arr (by decide)
theorem so_13 {I : IT} {X : XT} : IsObj (stH I X) 13 6 := st_obj (by decide)
theorem sa_14 {I : IT} {X : XT} : IsArr (stH I X) 14 11 40 := st_arr (by decide)
theorem sa_15 {I : IT} {X : XT} : IsArr (stH I X) 15 15 4 := st_arr (by decide)
theorem so_16 {I : IT} {X : XT} : IsObj (stH I X) 16 8 := st_obj (by decide)
theorem sa_17 {I : IT} {X : XT} : IsArr (stH I X) 17 12 60 := st_arr (by decide)
theorem so_18 {I : IT} {X : XT} : IsObj (stH I X) 18 8 := st_obj (by decide)
theorem sa_19 {I : IT} {X : XT} : IsArr (stH I X) 19 12 60 := st_arr (by decide)
theorem so_20 {I : IT} {X : XT} : IsObj (stH I X) 20 8 := st_obj (by decide)
theorem sa_21 {I : IT} {X : XT} : IsArr (stH I X) 21 12 60 := st_arr (by decide)
theorem so_22 {I : IT} {X : XT} : IsObj (stH I X) 22 8 := st_obj (by decide)
theorem sa_23 {I : IT} {X : XT} : IsArr (stH I X) 23 12 60 := st_arr (by decide)
theorem so_24 {I : IT} {X : XT} : IsObj (stH I X) 24 2 := st_obj (by decide)
theorem sa_25 {I : IT} {X : XT} : IsArr (stH I X) 25 11 5 := st_arr (by decide)
theorem sa_26 {I : IT} {X : XT} : IsArr (stH I X) 26 11 5 := st_arr (by decide)
theorem sa_27 {I : IT} {X : XT} : IsArr (stH I X) 27 11 6 := st_arr (by decide)
theorem so_28 {I : IT} {X : XT} : IsObj (stH I X) 28 0 := st_obj (by decide)
theorem sa_29 {I : IT} {X : XT} : IsArr (stH I X) 29 11 40 := st_arr (by decide)
theorem so_30 {I : IT} {X : XT} : IsObj (stH I X) 30 1 := st_obj (by decide)
theorem sa_31 {I : IT} {X : XT} : IsArr (stH I X) 31 11 5 := st_arr (by decide)
theorem sa_32 {I : IT} {X : XT} : IsArr (stH I X) 32 11 5 := st_arr (by decide)
theorem so_33 {I : IT} {X : XT} : IsObj (stH I X) 33 1 := st_obj (by decide)
theorem sa_34 {I : IT} {X : XT} : IsArr (stH I X) 34 11 5 := st_arr (by decide)
theorem sa_35 {I : IT} {X : XT} : IsArr (stH I X) 35 11 5 := st_arr (by decide)
theorem sa_36 {I : IT} {X : XT} : IsArr (stH I X) 36 16 3 := st_arr (by decide)
theorem so_37 {I : IT} {X : XT} : IsObj (stH I X) 37 0 := st_obj (by decide)
theorem sa_38 {I : IT} {X : XT} : IsArr (stH I X) 38 11 40 := st_arr (by decide)
theorem so_39 {I : IT} {X : XT} : IsObj (stH I X) 39 1 := st_obj (by decide)
theorem sa_40 {I : IT} {X : XT} : IsArr (stH I X) 40 11 5 := st_arr (by decide)
theorem sa_41 {I : IT} {X : XT} : IsArr (stH I X) 41 11 5 := st_arr (by decide)
theorem so_42 {I : IT} {X : XT} : IsObj (stH I X) 42 1 := st_obj (by decide)
theorem sa_43 {I : IT} {X : XT} : IsArr (stH I X) 43 11 5 := st_arr (by decide)
theorem sa_44 {I : IT} {X : XT} : IsArr (stH I X) 44 11 5 := st_arr (by decide)
theorem so_45 {I : IT} {X : XT} : IsObj (stH I X) 45 0 := st_obj (by decide)
theorem sa_46 {I : IT} {X : XT} : IsArr (stH I X) 46 11 40 := st_arr (by decide)
theorem so_47 {I : IT} {X : XT} : IsObj (stH I X) 47 1 := st_obj (by decide)
theorem sa_48 {I : IT} {X : XT} : IsArr (stH I X) 48 11 5 := st_arr (by decide)
theorem sa_49 {I : IT} {X : XT} : IsArr (stH I X) 49 11 5 := st_arr (by decide)
theorem so_50 {I : IT} {X : XT} : IsObj (stH I X) 50 1 := st_obj (by decide)
theorem sa_51 {I : IT} {X : XT} : IsArr (stH I X) 51 11 5 := st_arr (by decide)
theorem sa_52 {I : IT} {X : XT} : IsArr (stH I X) 52 11 5 := st_arr (by decide)
theorem so_53 {I : IT} {X : XT} : IsObj (stH I X) 53 0 := st_obj (by decide)
theorem sa_54 {I : IT} {X : XT} : IsArr (stH I X) 54 11 40 := st_arr (by decide)
theorem so_55 {I : IT} {X : XT} : IsObj (stH I X) 55 1 := st_obj (by decide)
theorem sa_56 {I : IT} {X : XT} : IsArr (stH I X) 56 11 5 := st_arr (by decide)
theorem sa_57 {I : IT} {X : XT} : IsArr (stH I X) 57 11 5 := st_arr (by decide)
theorem so_58 {I : IT} {X : XT} : IsObj (stH I X) 58 1 := st_obj (by decide)
theorem sa_59 {I : IT} {X : XT} : IsArr (stH I X) 59 11 5 := st_arr (by decide)
theorem sa_60 {I : IT} {X : XT} : IsArr (stH I X) 60 11 5 := st_arr (by decide)
theorem so_61 {I : IT} {X : XT} : IsObj (stH I X) 61 5 := st_obj (by decide)
theorem so_62 {I : IT} {X : XT} : IsObj (stH I X) 62 2 := st_obj (by decide)
theorem sa_63 {I : IT} {X : XT} : IsArr (stH I X) 63 11 5 := st_arr (by decide)
theorem sa_64 {I : IT} {X : XT} : IsArr (stH I X) 64 11 5 := st_arr (by decide)
theorem sa_65 {I : IT} {X : XT} : IsArr (stH I X) 65 11 6 := st_arr (by decide)
theorem so_66 {I : IT} {X : XT} : IsObj (stH I X) 66 1 := st_obj (by decide)
theorem sa_67 {I : IT} {X : XT} : IsArr (stH I X) 67 11 5 := st_arr (by decide)
theorem sa_68 {I : IT} {X : XT} : IsArr (stH I X) 68 11 5 := st_arr (by decide)
theorem so_69 {I : IT} {X : XT} : IsObj (stH I X) 69 1 := st_obj (by decide)
theorem sa_70 {I : IT} {X : XT} : IsArr (stH I X) 70 11 5 := st_arr (by decide)
theorem sa_71 {I : IT} {X : XT} : IsArr (stH I X) 71 11 5 := st_arr (by decide)
theorem so_72 {I : IT} {X : XT} : IsObj (stH I X) 72 4 := st_obj (by decide)
theorem sa_73 {I : IT} {X : XT} : IsArr (stH I X) 73 17 5 := st_arr (by decide)
theorem sa_74 {I : IT} {X : XT} : IsArr (stH I X) 74 11 4 := st_arr (by decide)
theorem sa_75 {I : IT} {X : XT} : IsArr (stH I X) 75 11 4 := st_arr (by decide)
theorem so_76 {I : IT} {X : XT} : IsObj (stH I X) 76 1 := st_obj (by decide)
theorem sa_77 {I : IT} {X : XT} : IsArr (stH I X) 77 11 5 := st_arr (by decide)
theorem sa_78 {I : IT} {X : XT} : IsArr (stH I X) 78 11 5 := st_arr (by decide)
theorem so_79 {I : IT} {X : XT} : IsObj (stH I X) 79 1 := st_obj (by decide)
theorem sa_80 {I : IT} {X : XT} : IsArr (stH I X) 80 11 5 := st_arr (by decide)
theorem sa_81 {I : IT} {X : XT} : IsArr (stH I X) 81 11 5 := st_arr (by decide)
theorem so_82 {I : IT} {X : XT} : IsObj (stH I X) 82 1 := st_obj (by decide)
theorem sa_83 {I : IT} {X : XT} : IsArr (stH I X) 83 11 5 := st_arr (by decide)
theorem sa_84 {I : IT} {X : XT} : IsArr (stH I X) 84 11 5 := st_arr (by decide)
theorem so_85 {I : IT} {X : XT} : IsObj (stH I X) 85 1 := st_obj (by decide)
theorem sa_86 {I : IT} {X : XT} : IsArr (stH I X) 86 11 5 := st_arr (by decide)
theorem sa_87 {I : IT} {X : XT} : IsArr (stH I X) 87 11 5 := st_arr (by decide)
theorem so_88 {I : IT} {X : XT} : IsObj (stH I X) 88 1 := st_obj (by decide)
theorem sa_89 {I : IT} {X : XT} : IsArr (stH I X) 89 11 5 := st_arr (by decide)
theorem sa_90 {I : IT} {X : XT} : IsArr (stH I X) 90 11 5 := st_arr (by decide)
theorem so_91 {I : IT} {X : XT} : IsObj (stH I X) 91 7 := st_obj (by decide)
theorem sa_92 {I : IT} {X : XT} : IsArr (stH I X) 92 17 6 := st_arr (by decide)
theorem so_93 {I : IT} {X : XT} : IsObj (stH I X) 93 1 := st_obj (by decide)
theorem sa_94 {I : IT} {X : XT} : IsArr (stH I X) 94 11 5 := st_arr (by decide)
theorem sa_95 {I : IT} {X : XT} : IsArr (stH I X) 95 11 5 := st_arr (by decide)
theorem so_96 {I : IT} {X : XT} : IsObj (stH I X) 96 1 := st_obj (by decide)
theorem sa_97 {I : IT} {X : XT} : IsArr (stH I X) 97 11 5 := st_arr (by decide)
theorem sa_98 {I : IT} {X : XT} : IsArr (stH I X) 98 11 5 := st_arr (by decide)
theorem so_99 {I : IT} {X : XT} : IsObj (stH I X) 99 1 := st_obj (by decide)
theorem sa_100 {I : IT} {X : XT} : IsArr (stH I X) 100 11 5 := st_arr (by decide)
theorem sa_101 {I : IT} {X : XT} : IsArr (stH I X) 101 11 5 := st_arr (by decide)
theorem so_102 {I : IT} {X : XT} : IsObj (stH I X) 102 1 := st_obj (by decide)
theorem sa_103 {I : IT} {X : XT} : IsArr (stH I X) 103 11 5 := st_arr (by decide)
theorem sa_104 {I : IT} {X : XT} : IsArr (stH I X) 104 11 5 := st_arr (by decide)
theorem so_105 {I : IT} {X : XT} : IsObj (stH I X) 105 1 := st_obj (by decide)
theorem sa_106 {I : IT} {X : XT} : IsArr (stH I X) 106 11 5 := st_arr (by decide)
theorem sa_107 {I : IT} {X : XT} : IsArr (stH I X) 107 11 5 := st_arr (by decide)
theorem so_108 {I : IT} {X : XT} : IsObj (stH I X) 108 1 := st_obj (by decide)
theorem sa_109 {I : IT} {X : XT} : IsArr (stH I X) 109 11 5 := st_arr (by decide)
theorem sa_110 {I : IT} {X : XT} : IsArr (stH I X) 110 11 5 := st_arr (by decide)
theorem so_111 {I : IT} {X : XT} : IsObj (stH I X) 111 3 := st_obj (by decide)
theorem sa_112 {I : IT} {X : XT} : IsArr (stH I X) 112 17 5 := st_arr (by decide)
theorem so_113 {I : IT} {X : XT} : IsObj (stH I X) 113 1 := st_obj (by decide)
theorem sa_114 {I : IT} {X : XT} : IsArr (stH I X) 114 11 5 := st_arr (by decide)
theorem sa_115 {I : IT} {X : XT} : IsArr (stH I X) 115 11 5 := st_arr (by decide)
theorem so_116 {I : IT} {X : XT} : IsObj (stH I X) 116 1 := st_obj (by decide)
theorem sa_117 {I : IT} {X : XT} : IsArr (stH I X) 117 11 5 := st_arr (by decide)
theorem sa_118 {I : IT} {X : XT} : IsArr (stH I X) 118 11 5 := st_arr (by decide)
theorem so_119 {I : IT} {X : XT} : IsObj (stH I X) 119 1 := st_obj (by decide)
theorem sa_120 {I : IT} {X : XT} : IsArr (stH I X) 120 11 5 := st_arr (by decide)
theorem sa_121 {I : IT} {X : XT} : IsArr (stH I X) 121 11 5 := st_arr (by decide)
theorem so_122 {I : IT} {X : XT} : IsObj (stH I X) 122 1 := st_obj (by decide)
theorem sa_123 {I : IT} {X : XT} : IsArr (stH I X) 123 11 5 := st_arr (by decide)
theorem sa_124 {I : IT} {X : XT} : IsArr (stH I X) 124 11 5 := st_arr (by decide)
theorem so_125 {I : IT} {X : XT} : IsObj (stH I X) 125 1 := st_obj (by decide)
theorem sa_126 {I : IT} {X : XT} : IsArr (stH I X) 126 11 5 := st_arr (by decide)
theorem sa_127 {I : IT} {X : XT} : IsArr (stH I X) 127 11 5 := st_arr (by decide)
theorem sa_128 {I : IT} {X : XT} : IsArr (stH I X) 128 11 6 := st_arr (by decide)
theorem so_129 {I : IT} {X : XT} : IsObj (stH I X) 129 10 := st_obj (by decide)
theorem sa_130 {I : IT} {X : XT} : IsArr (stH I X) 130 11 6 := st_arr (by decide)
theorem sa_131 {I : IT} {X : XT} : IsArr (stH I X) 131 11 6 := st_arr (by decide)
theorem sa_132 {I : IT} {X : XT} : IsArr (stH I X) 132 11 240 := st_arr (by decide)
theorem sa_133 {I : IT} {X : XT} : IsArr (stH I X) 133 11 40 := st_arr (by decide)
theorem sa_134 {I : IT} {X : XT} : IsArr (stH I X) 134 11 4 := st_arr (by decide)
theorem sa_135 {I : IT} {X : XT} : IsArr (stH I X) 135 12 240 := st_arr (by decide)
theorem sa_136 {I : IT} {X : XT} : IsArr (stH I X) 136 11 6 := st_arr (by decide)
theorem sa_137 {I : IT} {X : XT} : IsArr (stH I X) 137 11 5 := st_arr (by decide)
theorem sa_138 {I : IT} {X : XT} : IsArr (stH I X) 138 11 5 := st_arr (by decide)
theorem sa_139 {I : IT} {X : XT} : IsArr (stH I X) 139 11 6 := st_arr (by decide)
theorem sa_140 {I : IT} {X : XT} : IsArr (stH I X) 140 11 20 := st_arr (by decide)
theorem sa_141 {I : IT} {X : XT} : IsArr (stH I X) 141 11 18 := st_arr (by decide)
theorem sa_142 {I : IT} {X : XT} : IsArr (stH I X) 142 11 216 := st_arr (by decide)
theorem sa_143 {I : IT} {X : XT} : IsArr (stH I X) 143 11 720 := st_arr (by decide)
theorem sa_144 {I : IT} {X : XT} : IsArr (stH I X) 144 13 3 := st_arr (by decide)
theorem sa_145 {I : IT} {X : XT} : IsArr (stH I X) 145 11 3 := st_arr (by decide)
theorem sa_146 {I : IT} {X : XT} : IsArr (stH I X) 146 11 54 := st_arr (by decide)
theorem sa_147 {I : IT} {X : XT} : IsArr (stH I X) 147 11 54 := st_arr (by decide)
theorem sa_148 {I : IT} {X : XT} : IsArr (stH I X) 148 11 2160 := st_arr (by decide)
theorem sa_149 {I : IT} {X : XT} : IsArr (stH I X) 149 11 10 := st_arr (by decide)
theorem sa_150 {I : IT} {X : XT} : IsArr (stH I X) 150 11 10 := st_arr (by decide)
theorem sr_1_0 {I : IT} {X : XT} : oh_R (stH I X) 1 0 = 2 := rfl
theorem sr_1_1 {I : IT} {X : XT} : oh_R (stH I X) 1 1 = 15 := rfl
theorem sr_1_2 {I : IT} {X : XT} : oh_R (stH I X) 1 2 = 24 := rfl
theorem sr_1_3 {I : IT} {X : XT} : oh_R (stH I X) 1 3 = 28 := rfl
theorem sr_1_4 {I : IT} {X : XT} : oh_R (stH I X) 1 4 = 36 := rfl
theorem sr_1_5 {I : IT} {X : XT} : oh_R (stH I X) 1 5 = 61 := rfl
theorem sr_1_6 {I : IT} {X : XT} : oh_R (stH I X) 1 6 = 62 := rfl
theorem sr_1_7 {I : IT} {X : XT} : oh_R (stH I X) 1 7 = 66 := rfl
theorem sr_1_8 {I : IT} {X : XT} : oh_R (stH I X) 1 8 = 69 := rfl
theorem sr_1_9 {I : IT} {X : XT} : oh_R (stH I X) 1 9 = 72 := rfl
theorem sr_1_10 {I : IT} {X : XT} : oh_R (stH I X) 1 10 = 91 := rfl
theorem sr_1_11 {I : IT} {X : XT} : oh_R (stH I X) 1 11 = 111 := rfl
theorem sr_1_12 {I : IT} {X : XT} : oh_R (stH I X) 1 12 = 128 := rfl
theorem sr_72_0 {I : IT} {X : XT} : oh_R (stH I X) 72 0 = 73 := rfl
theorem sr_72_1 {I : IT} {X : XT} : oh_R (stH I X) 72 1 = 74 := rfl
theorem sr_72_2 {I : IT} {X : XT} : oh_R (stH I X) 72 2 = 75 := rfl
theorem sr_91_0 {I : IT} {X : XT} : oh_R (stH I X) 91 0 = 24 := rfl
theorem sr_91_1 {I : IT} {X : XT} : oh_R (stH I X) 91 1 = 92 := rfl
theorem sr_111_0 {I : IT} {X : XT} : oh_R (stH I X) 111 0 = 112 := rfl
theorem sr_129_1 {I : IT} {X : XT} : oh_R (stH I X) 129 1 = 130 := rfl
theorem sr_129_5 {I : IT} {X : XT} : oh_R (stH I X) 129 5 = 131 := rfl
theorem sr_129_6 {I : IT} {X : XT} : oh_R (stH I X) 129 6 = 132 := rfl
theorem sr_129_7 {I : IT} {X : XT} : oh_R (stH I X) 129 7 = 133 := rfl
theorem sr_129_8 {I : IT} {X : XT} : oh_R (stH I X) 129 8 = 134 := rfl
theorem sr_129_9 {I : IT} {X : XT} : oh_R (stH I X) 129 9 = 135 := rfl
theorem sr_129_12 {I : IT} {X : XT} : oh_R (stH I X) 129 12 = 136 := rfl
theorem sr_129_13 {I : IT} {X : XT} : oh_R (stH I X) 129 13 = 137 := rfl
theorem sr_129_14 {I : IT} {X : XT} : oh_R (stH I X) 129 14 = 138 := rfl
theorem sr_129_18 {I : IT} {X : XT} : oh_R (stH I X) 129 18 = 139 := rfl
theorem sr_129_19 {I : IT} {X : XT} : oh_R (stH I X) 129 19 = 140 := rfl
theorem sr_129_20 {I : IT} {X : XT} : oh_R (stH I X) 129 20 = 141 := rfl
theorem sr_129_21 {I : IT} {X : XT} : oh_R (stH I X) 129 21 = 142 := rfl
theorem sr_129_23 {I : IT} {X : XT} : oh_R (stH I X) 129 23 = 143 := rfl
theorem sr_129_24 {I : IT} {X : XT} : oh_R (stH I X) 129 24 = 144 := rfl
theorem sr_129_25 {I : IT} {X : XT} : oh_R (stH I X) 129 25 = 145 := rfl
theorem sr_129_26 {I : IT} {X : XT} : oh_R (stH I X) 129 26 = 146 := rfl
theorem sr_129_27 {I : IT} {X : XT} : oh_R (stH I X) 129 27 = 147 := rfl
theorem sr_129_28 {I : IT} {X : XT} : oh_R (stH I X) 129 28 = 148 := rfl
theorem sr_129_29 {I : IT} {X : XT} : oh_R (stH I X) 129 29 = 149 := rfl
theorem sr_129_30 {I : IT} {X : XT} : oh_R (stH I X) 129 30 = 150 := rfl
theorem sr_91_2 {I : IT} {X : XT} : oh_R (stH I X) 91 2 = X.2.1 := rfl
theorem sr_111_1 {I : IT} {X : XT} : oh_R (stH I X) 111 1 = X.2.2 := rfl
theorem rowl_nz {a : Nat} (h : a ∈ rowL) : a ≠ 0 := by
  have : ∀ a ∈ rowL, a ≠ 0 := by decide
  exact this a h
theorem rs_getI {g : OG} {d : Nat} {mi : MI} {pc n : Nat} {lv : List (Nat × Value)} {st : List Value} {I : IT} {X : XT} {Q : OQ} {ci N idx a : Nat} {C : String} {T : u_T} {ty : Nat → FieldType} (hc : CLS ci C T N ty) (k : Nat) (hk : k < N ∧ fk ci k = 0) (ha : IsObj (stH I X) a ci) (hlink : Cond.fieldLink mi.1.cls idx (T k).1 (T k).2.1 (T k).2.2.1 ∈ GW) (hd : decode mi.2.1 pc = .ok (.getfield idx, 3)) (hn : pc + 3 = n) (kk : ORuns g d 0 0 mi n lv (.int (I a k) :: st) (stH I X) Q) : ORuns g d 0 0 mi pc lv (.ref (og_b g + a) :: st) (stH I X) Q := r_getI hc k hk ha hlink hd hn kk
theorem rs_getL {g : OG} {d : Nat} {mi : MI} {pc n : Nat} {lv : List (Nat × Value)} {st : List Value} {I : IT} {X : XT} {Q : OQ} {ci N idx a : Nat} {C : String} {T : u_T} {ty : Nat → FieldType} (hc : CLS ci C T N ty) (k : Nat) (hk : k < N ∧ fk ci k = 1) (ha : IsObj (stH I X) a ci) (hlink : Cond.fieldLink mi.1.cls idx (T k).1 (T k).2.1 (T k).2.2.1 ∈ GW) (hd : decode mi.2.1 pc = .ok (.getfield idx, 3)) (hn : pc + 3 = n) (kk : ORuns g d 0 0 mi n lv (.long (X.1 a k) :: st) (stH I X) Q) : ORuns g d 0 0 mi pc lv (.ref (og_b g + a) :: st) (stH I X) Q := r_getL hc k hk ha hlink hd hn kk
theorem rs_putI {g : OG} {d : Nat} {mi : MI} {pc n : Nat} {lv : List (Nat × Value)} {st : List Value} {I : IT} {X : XT} {Q : OQ} {ci N idx a : Nat} {C : String} {T : u_T} {ty : Nat → FieldType} {v : Int32} (hc : CLS ci C T N ty) (k : Nat) (hk : k < N ∧ fk ci k = 0 ∧ ty k = .int ∧ (T k).2.2.2 = false) (ha : IsObj (stH I X) a ci) (hlink : Cond.fieldLink mi.1.cls idx (T k).1 (T k).2.1 (T k).2.2.1 ∈ GW) (hd : decode mi.2.1 pc = .ok (.putfield idx, 3)) (hn : pc + 3 = n) (kk : ORuns g d 0 0 mi n lv st (stH (set2 I a k v) X) Q) : ORuns g d 0 0 mi pc lv (.int v :: .ref (og_b g + a) :: st) (stH I X) Q := r_putI hc k hk ha hlink hd hn kk
theorem rs_putZ {g : OG} {d : Nat} {mi : MI} {pc n : Nat} {lv : List (Nat × Value)} {st : List Value} {I : IT} {X : XT} {Q : OQ} {ci N idx a : Nat} {C : String} {T : u_T} {ty : Nat → FieldType} {v : Int32} (hv : v = 0 ∨ v = 1) (hc : CLS ci C T N ty) (k : Nat) (hk : k < N ∧ fk ci k = 0 ∧ ty k = .boolean ∧ (T k).2.2.2 = false) (ha : IsObj (stH I X) a ci) (hlink : Cond.fieldLink mi.1.cls idx (T k).1 (T k).2.1 (T k).2.2.1 ∈ GW) (hd : decode mi.2.1 pc = .ok (.putfield idx, 3)) (hn : pc + 3 = n) (kk : ORuns g d 0 0 mi n lv st (stH (set2 I a k v) X) Q) : ORuns g d 0 0 mi pc lv (.int v :: .ref (og_b g + a) :: st) (stH I X) Q := r_putZ hv hc k hk ha hlink hd hn kk
theorem rs_putL {g : OG} {d : Nat} {mi : MI} {pc n : Nat} {lv : List (Nat × Value)} {st : List Value} {I : IT} {X : XT} {Q : OQ} {ci N idx a : Nat} {C : String} {T : u_T} {ty : Nat → FieldType} {v : Int64} (hc : CLS ci C T N ty) (k : Nat) (hk : k < N ∧ fk ci k = 1 ∧ ty k = .long ∧ (T k).2.2.2 = false) (ha : IsObj (stH I X) a ci) (hlink : Cond.fieldLink mi.1.cls idx (T k).1 (T k).2.1 (T k).2.2.1 ∈ GW) (hd : decode mi.2.1 pc = .ok (.putfield idx, 3)) (hn : pc + 3 = n) (kk : ORuns g d 0 0 mi n lv st (stH I (set2L X.1 a k v, X.2)) Q) : ORuns g d 0 0 mi pc lv (.long v :: .ref (og_b g + a) :: st) (stH I X) Q := r_putL hc k hk ha hlink hd hn kk
theorem rs_putBook {g : OG} {d : Nat} {mi : MI} {pc n : Nat} {lv : List (Nat × Value)} {st : List Value} {I : IT} {X : XT} {Q : OQ} {idx v : Nat} (hv : v ≠ 0) (hlink : Cond.fieldLink mi.1.cls idx (TX8 2).1 (TX8 2).2.1 (TX8 2).2.2.1 ∈ GW) (hd : decode mi.2.1 pc = .ok (.putfield idx, 3)) (hn : pc + 3 = n) (kk : ORuns g d 0 0 mi n lv st (stH I (X.1, v, X.2.2)) Q) : ORuns g d 0 0 mi pc lv (.ref (og_b g + v) :: .ref (og_b g + 91) :: st) (stH I X) Q := by
  refine r_putR hv cls_7 2 fi_7_2 (Or.inl rfl) (fun x => ⟨rfl, rfl⟩) so_91 hlink hd hn ?_
  have e : oh_setR (stH I X) 91 2 v = stH I (X.1, v, X.2.2) := by
    show (SH, I, X.1, set2R (Rof X.2.1 X.2.2) 91 2 v) = (SH, I, X.1, Rof _ _)
    rw [Rof_bk]
  rw [e]
  exact kk
theorem rs_putPlan {g : OG} {d : Nat} {mi : MI} {pc n : Nat} {lv : List (Nat × Value)} {st : List Value} {I : IT} {X : XT} {Q : OQ} {idx v : Nat} (hv : v ≠ 0) (hlink : Cond.fieldLink mi.1.cls idx (TX4 1).1 (TX4 1).2.1 (TX4 1).2.2.1 ∈ GW) (hd : decode mi.2.1 pc = .ok (.putfield idx, 3)) (hn : pc + 3 = n) (kk : ORuns g d 0 0 mi n lv st (stH I (X.1, X.2.1, v)) Q) : ORuns g d 0 0 mi pc lv (.ref (og_b g + v) :: .ref (og_b g + 111) :: st) (stH I X) Q := by
  refine r_putR hv cls_3 1 fi_3_1 (Or.inl rfl) (fun x => ⟨rfl, rfl⟩) so_111 hlink hd hn ?_
  have e : oh_setR (stH I X) 111 1 v = stH I (X.1, X.2.1, v) := by
    show (SH, I, X.1, set2R (Rof X.2.1 X.2.2) 111 1 v) = (SH, I, X.1, Rof _ _)
    rw [Rof_pl]
  rw [e]
  exact kk
theorem rs_iald {g : OG} {d : Nat} {mi : MI} {pc n : Nat} {lv : List (Nat × Value)} {st : List Value} {I : IT} {X : XT} {Q : OQ} {a : Nat} {z : Nat} {i : Int32} (ha : IsArr (stH I X) a 11 z) (hi : vp_in i z) (hd : decode mi.2.1 pc = .ok (.iaload, 1)) (hn : pc + 1 = n) (kk : ORuns g d 0 0 mi n lv (.int (I a i.toNatClampNeg) :: st) (stH I X) Q) : ORuns g d 0 0 mi pc lv (.int i :: .ref (og_b g + a) :: st) (stH I X) Q := r_iald ha hi hd hn kk
theorem rs_bald {g : OG} {d : Nat} {mi : MI} {pc n : Nat} {lv : List (Nat × Value)} {st : List Value} {I : IT} {X : XT} {Q : OQ} {a : Nat} {z : Nat} {i : Int32} (ha : IsArr (stH I X) a 12 z) (hi : vp_in i z) (hd : decode mi.2.1 pc = .ok (.baload, 1)) (hn : pc + 1 = n) (kk : ORuns g d 0 0 mi n lv (.int (I a i.toNatClampNeg) :: st) (stH I X) Q) : ORuns g d 0 0 mi pc lv (.int i :: .ref (og_b g + a) :: st) (stH I X) Q := r_bald ha hi hd hn kk
theorem rs_zald {g : OG} {d : Nat} {mi : MI} {pc n : Nat} {lv : List (Nat × Value)} {st : List Value} {I : IT} {X : XT} {Q : OQ} {a : Nat} {z : Nat} {i : Int32} (ha : IsArr (stH I X) a 13 z) (hi : vp_in i z) (hd : decode mi.2.1 pc = .ok (.baload, 1)) (hn : pc + 1 = n) (kk : ORuns g d 0 0 mi n lv (.int (I a i.toNatClampNeg) :: st) (stH I X) Q) : ORuns g d 0 0 mi pc lv (.int i :: .ref (og_b g + a) :: st) (stH I X) Q := r_zald ha hi hd hn kk
theorem rs_iast {g : OG} {d : Nat} {mi : MI} {pc n : Nat} {lv : List (Nat × Value)} {st : List Value} {I : IT} {X : XT} {Q : OQ} {a : Nat} {z : Nat} {i x : Int32} (ha : IsArr (stH I X) a 11 z) (hi : vp_in i z) (hd : decode mi.2.1 pc = .ok (.iastore, 1)) (hn : pc + 1 = n) (kk : ORuns g d 0 0 mi n lv st (stH (set2 I a i.toNatClampNeg x) X) Q) : ORuns g d 0 0 mi pc lv (.int x :: .int i :: .ref (og_b g + a) :: st) (stH I X) Q := r_iast ha hi hd hn kk
theorem rs_bast {g : OG} {d : Nat} {mi : MI} {pc n : Nat} {lv : List (Nat × Value)} {st : List Value} {I : IT} {X : XT} {Q : OQ} {a : Nat} {z : Nat} {i x : Int32} (ha : IsArr (stH I X) a 12 z) (hi : vp_in i z) (hd : decode mi.2.1 pc = .ok (.bastore, 1)) (hn : pc + 1 = n) (kk : ORuns g d 0 0 mi n lv st (stH (set2 I a i.toNatClampNeg (vp_nar .byte x)) X) Q) : ORuns g d 0 0 mi pc lv (.int x :: .int i :: .ref (og_b g + a) :: st) (stH I X) Q := r_bast ha hi hd hn kk
theorem rs_zast {g : OG} {d : Nat} {mi : MI} {pc n : Nat} {lv : List (Nat × Value)} {st : List Value} {I : IT} {X : XT} {Q : OQ} {a : Nat} {z : Nat} {i x : Int32} (hx : x = 0 ∨ x = 1) (ha : IsArr (stH I X) a 13 z) (hi : vp_in i z) (hd : decode mi.2.1 pc = .ok (.bastore, 1)) (hn : pc + 1 = n) (kk : ORuns g d 0 0 mi n lv st (stH (set2 I a i.toNatClampNeg x) X) Q) : ORuns g d 0 0 mi pc lv (.int x :: .int i :: .ref (og_b g + a) :: st) (stH I X) Q := r_zast hx ha hi hd hn kk
theorem rs_copy {g : OG} {d : Nat} {mi : MI} {pc n : Nat} {lv : List (Nat × Value)} {st : List Value} {I : IT} {X : XT} {Q : OQ} {a : Nat} {idx z0 z1 a0 : Nat} {sp dp len : Int32} (ha0 : IsArr (stH I X) a0 11 z0) (ha : IsArr (stH I X) a 11 z1) (hg : Cond.methodLink mi.1.cls idx arraycopyName ∈ GW ∧ Cond.native arraycopyName ∈ GW ∧ Cond.static arraycopyName ∈ GW ∧ Cond.initialized "java/lang/System" ∈ GW) (hb : (¬ sp < 0 ∧ ¬ dp < 0 ∧ ¬ len < 0) ∧ sp.toNatClampNeg + len.toNatClampNeg ≤ z0 ∧ dp.toNatClampNeg + len.toNatClampNeg ≤ z1) (hr : (st.map fun v => v.category).sum ≤ 8) (hd : decode mi.2.1 pc = .ok (.invokestatic idx, 3)) (hn : pc + 3 = n) (kk : ORuns g (d + 1) 0 0 mi n lv st (stH (setRow I a (va_cpy (I a0) (I a) sp.toNatClampNeg dp.toNatClampNeg len.toNatClampNeg)) X) Q) : ORuns g (d + 1) 0 0 mi pc lv (.int len :: .int dp :: .ref (og_b g + a) :: .int sp :: .ref (og_b g + a0) :: st) (stH I X) Q := r_copy ha0 ha hg hb hr hd hn kk
theorem rs_iret {g : OG} {d : Nat} {mi : MI} {pc : Nat} {lv : List (Nat × Value)} {I : IT} {X : XT} {v : Int32} {K : Int32 → IT → XT → Prop} (hd : decode mi.2.1 pc = .ok (.ireturn, 1)) (hr : mi.2.2.2 = some .int) (k : K v I X) : ORuns g d 0 0 mi pc lv [.int v] (stH I X) (qI K) := r_iret (st := []) hd hr ⟨I, X, rfl, k⟩
theorem rs_zret {g : OG} {d : Nat} {mi : MI} {pc : Nat} {lv : List (Nat × Value)} {I : IT} {X : XT} {v : Int32} {K : Int32 → IT → XT → Prop} (hd : decode mi.2.1 pc = .ok (.ireturn, 1)) (hr : mi.2.2.2 = some .boolean) (hz : v = 0 ∨ v = 1) (k : K v I X) : ORuns g d 0 0 mi pc lv [.int v] (stH I X) (qI K) := r_zret (st := []) hd hr hz ⟨I, X, rfl, k⟩
theorem rs_lret {g : OG} {d : Nat} {mi : MI} {pc : Nat} {lv : List (Nat × Value)} {I : IT} {X : XT} {v : Int64} {K : Int64 → IT → XT → Prop} (hd : decode mi.2.1 pc = .ok (.lreturn, 1)) (hr : mi.2.2.2 = some .long) (k : K v I X) : ORuns g d 0 0 mi pc lv [.long v] (stH I X) (qL K) := r_lret (st := []) hd hr ⟨I, X, rfl, k⟩
theorem rs_vret {g : OG} {d : Nat} {mi : MI} {pc : Nat} {lv : List (Nat × Value)} {I : IT} {X : XT} {K : IT → XT → Prop} (hd : decode mi.2.1 pc = .ok (.return_, 1)) (hr : mi.2.2.2 = none) (k : K I X) : ORuns g d 0 0 mi pc lv [] (stH I X) (qV K) := r_vret (st := []) hd hr ⟨I, X, rfl, k⟩
theorem sw_split {c A B G : Prop} [Decidable c] (H : (c → A) ∧ (¬ c → B)) (f : c → A → G) (k : ¬ c → B → G) : G := if h : c then f h (H.1 h) else k h (H.2 h)
theorem rs_cVi {g : OG} {d : Nat} {mi mi' : MI} {pc n np : Nat} {lv : List (Nat × Value)} {rest As st0 : List Value} {I : IT} {X : XT} {Q : OQ} {idx a ci : Nat} {q : vw_C} (hm : VM mi' np) (hlk : Cond.methodLink mi.1.cls idx mi'.1 ∈ GW) (ha : IsObj (stH I X) a ci) (hq : ci < 11 ∧ vwCl[ci]? = some q ∧ q.1 = mi'.1.cls) (hd : decode mi.2.1 pc = .ok (.invokevirtual idx, 3)) (hst : st0 = As.reverse ++ .ref (og_b g + a) :: rest) (hA : As.length = np) (hr : (rest.map fun v => v.category).sum ≤ 8) (hn : pc + 3 = n) (k : CI g d mi' (.ref (og_b g + a) :: As) I X (fun r I' X' => ORuns g (d + 1) 0 0 mi n lv (.int r :: rest) (stH I' X') Q)) : ORuns g (d + 1) 0 0 mi pc lv st0 (stH I X) Q := r_cVi hm hlk ha hq hd hst hA hr hn (ocall_mono (fun v h' ⟨r, e, I1, X1, e2, k⟩ => ⟨r, e, by rw [e2]; exact k⟩) k)
theorem rs_cSi {g : OG} {d : Nat} {mi mi' : MI} {pc n np : Nat} {lv : List (Nat × Value)} {rest As st0 : List Value} {I : IT} {X : XT} {Q : OQ} {idx : Nat} (hm : SM mi' np) (hlk : Cond.methodLink mi.1.cls idx mi'.1 ∈ GW) (hd : decode mi.2.1 pc = .ok (.invokestatic idx, 3)) (hst : st0 = As.reverse ++ rest) (hA : As.length = np) (hr : (rest.map fun v => v.category).sum ≤ 8) (hn : pc + 3 = n) (k : CI g d mi' As I X (fun r I' X' => ORuns g (d + 1) 0 0 mi n lv (.int r :: rest) (stH I' X') Q)) : ORuns g (d + 1) 0 0 mi pc lv st0 (stH I X) Q := r_cSi hm hlk hd hst hA hr hn (ocall_mono (fun v h' ⟨r, e, I1, X1, e2, k⟩ => ⟨r, e, by rw [e2]; exact k⟩) k)
theorem CI.mono {g : OG} {d : Nat} {mi : MI} {args : List Value} {I : IT} {X : XT} {K K' : Int32 → IT → XT → Prop} (k : CI g d mi args I X K) (h : ∀ r I' X', K r I' X' → K' r I' X') : CI g d mi args I X K' := ocall_mono (fun v h' ⟨r, e, I1, X1, e2, k⟩ => ⟨r, e, I1, X1, e2, h _ _ _ k⟩) k
theorem rs_cVl {g : OG} {d : Nat} {mi mi' : MI} {pc n np : Nat} {lv : List (Nat × Value)} {rest As st0 : List Value} {I : IT} {X : XT} {Q : OQ} {idx a ci : Nat} {q : vw_C} (hm : VM mi' np) (hlk : Cond.methodLink mi.1.cls idx mi'.1 ∈ GW) (ha : IsObj (stH I X) a ci) (hq : ci < 11 ∧ vwCl[ci]? = some q ∧ q.1 = mi'.1.cls) (hd : decode mi.2.1 pc = .ok (.invokevirtual idx, 3)) (hst : st0 = As.reverse ++ .ref (og_b g + a) :: rest) (hA : As.length = np) (hr : (rest.map fun v => v.category).sum ≤ 8) (hn : pc + 3 = n) (k : CL g d mi' (.ref (og_b g + a) :: As) I X (fun r I' X' => ORuns g (d + 1) 0 0 mi n lv (.long r :: rest) (stH I' X') Q)) : ORuns g (d + 1) 0 0 mi pc lv st0 (stH I X) Q := r_cVl hm hlk ha hq hd hst hA hr hn (ocall_mono (fun v h' ⟨r, e, I1, X1, e2, k⟩ => ⟨r, e, by rw [e2]; exact k⟩) k)
theorem rs_cSl {g : OG} {d : Nat} {mi mi' : MI} {pc n np : Nat} {lv : List (Nat × Value)} {rest As st0 : List Value} {I : IT} {X : XT} {Q : OQ} {idx : Nat} (hm : SM mi' np) (hlk : Cond.methodLink mi.1.cls idx mi'.1 ∈ GW) (hd : decode mi.2.1 pc = .ok (.invokestatic idx, 3)) (hst : st0 = As.reverse ++ rest) (hA : As.length = np) (hr : (rest.map fun v => v.category).sum ≤ 8) (hn : pc + 3 = n) (k : CL g d mi' As I X (fun r I' X' => ORuns g (d + 1) 0 0 mi n lv (.long r :: rest) (stH I' X') Q)) : ORuns g (d + 1) 0 0 mi pc lv st0 (stH I X) Q := r_cSl hm hlk hd hst hA hr hn (ocall_mono (fun v h' ⟨r, e, I1, X1, e2, k⟩ => ⟨r, e, by rw [e2]; exact k⟩) k)
theorem CL.mono {g : OG} {d : Nat} {mi : MI} {args : List Value} {I : IT} {X : XT} {K K' : Int64 → IT → XT → Prop} (k : CL g d mi args I X K) (h : ∀ r I' X', K r I' X' → K' r I' X') : CL g d mi args I X K' := ocall_mono (fun v h' ⟨r, e, I1, X1, e2, k⟩ => ⟨r, e, I1, X1, e2, h _ _ _ k⟩) k
theorem rs_cVv {g : OG} {d : Nat} {mi mi' : MI} {pc n np : Nat} {lv : List (Nat × Value)} {rest As st0 : List Value} {I : IT} {X : XT} {Q : OQ} {idx a ci : Nat} {q : vw_C} (hm : VM mi' np) (hlk : Cond.methodLink mi.1.cls idx mi'.1 ∈ GW) (ha : IsObj (stH I X) a ci) (hq : ci < 11 ∧ vwCl[ci]? = some q ∧ q.1 = mi'.1.cls) (hd : decode mi.2.1 pc = .ok (.invokevirtual idx, 3)) (hst : st0 = As.reverse ++ .ref (og_b g + a) :: rest) (hA : As.length = np) (hr : (rest.map fun v => v.category).sum ≤ 8) (hn : pc + 3 = n) (k : CV g d mi' (.ref (og_b g + a) :: As) I X (fun I' X' => ORuns g (d + 1) 0 0 mi n lv rest (stH I' X') Q)) : ORuns g (d + 1) 0 0 mi pc lv st0 (stH I X) Q := r_cVv hm hlk ha hq hd hst hA hr hn (ocall_mono (fun v h' ⟨e, I1, X1, e2, k⟩ => ⟨e, by rw [e2]; exact k⟩) k)
theorem rs_cSv {g : OG} {d : Nat} {mi mi' : MI} {pc n np : Nat} {lv : List (Nat × Value)} {rest As st0 : List Value} {I : IT} {X : XT} {Q : OQ} {idx : Nat} (hm : SM mi' np) (hlk : Cond.methodLink mi.1.cls idx mi'.1 ∈ GW) (hd : decode mi.2.1 pc = .ok (.invokestatic idx, 3)) (hst : st0 = As.reverse ++ rest) (hA : As.length = np) (hr : (rest.map fun v => v.category).sum ≤ 8) (hn : pc + 3 = n) (k : CV g d mi' As I X (fun I' X' => ORuns g (d + 1) 0 0 mi n lv rest (stH I' X') Q)) : ORuns g (d + 1) 0 0 mi pc lv st0 (stH I X) Q := r_cSv hm hlk hd hst hA hr hn (ocall_mono (fun v h' ⟨e, I1, X1, e2, k⟩ => ⟨e, by rw [e2]; exact k⟩) k)
theorem CV.mono {g : OG} {d : Nat} {mi : MI} {args : List Value} {I : IT} {X : XT} {K K' : IT → XT → Prop} (k : CV g d mi args I X K) (h : ∀ I' X', K I' X' → K' I' X') : CV g d mi args I X K' := ocall_mono (fun v h' ⟨e, I1, X1, e2, k⟩ => ⟨e, I1, X1, e2, h _ _ k⟩) k

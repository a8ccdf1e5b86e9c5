/-! ===== the class's reader ===== -/
def PF (a f : Nat) : Prop := (a = 62 ∧ f = 66) ∨ (a = 24 ∧ f = 30)
def SR2 (a f : Nat) (I I' : IT) : Prop := Same (fun b _ => (a ≤ b ∧ b ≤ a + 3) ∨ (f ≤ b ∧ b ≤ f + 2)) I I'
/-- what a house says lies in its bounds -/
def HB (hd : Nat → Nat) (h : Nat) : Prop := hd (4 * h) ≤ 5 ∧ hd (4 * h + 1) ≤ 9 ∧ hd (4 * h + 2) ≤ 3 ∧ (hd (4 * h + 3) ≤ 9 ∨ hd (4 * h + 3) = 99)
def CLR (I : IT) (a f m w : Nat) (hd wd : Nat → Nat) : Prop := I a 4 = nI m ∧ m ≤ 5 ∧ I a 3 = nI w ∧ w ≤ 6 ∧ (∀ h, h < m → (I (a + 1) h = nI (hd (4 * h)) ∧ I (a + 2) h = ndI (hd (4 * h + 3)) ∧ I (f + 1) h = nI (hd (4 * h + 1)) ∧ I (f + 2) h = nI (hd (4 * h + 2))) ∧ HB hd h) ∧ (∀ k, k < w → I (a + 3) k = nI (wd k) ∧ wd k ≤ 2) ∧ I f 3 = 0 ∧ I f 4 = 0 ∧ I f 5 = 0 ∧ I f 6 = 0
section T84
variable {g : OG} {d : Nat} {I : IT} {X : XT} {K : Int32 → IT → XT → Prop} {KV : IT → XT → Prop}
variable {z w m p t a f : Nat} {G : Nat → Int32} {hd wd : Nat → Nat}
theorem PF.lane (h : PF a f) : a ∈ laneL := by
  rcases h with ⟨rfl, rfl⟩ | ⟨rfl, rfl⟩ <;> decide
theorem PF.fire (h : PF a f) : f ∈ fireL := by
  rcases h with ⟨rfl, rfl⟩ | ⟨rfl, rfl⟩ <;> decide
theorem hset_old {h c : Nat} (hh : h < m) (hc : c < 4) : hset hd m G p (4 * h + c) = hd (4 * h + c) := by
  unfold hset
  rw [mW_at, mW_at, mW_at, mW_at, if_neg (by omega), if_neg (by omega), if_neg (by omega), if_neg (by omega)]
theorem hset_0 : hset hd m G p (4 * m) = (kindI (G p)).toNatClampNeg := by
  unfold hset
  rw [mW_at, mW_at, mW_at, mW_at, if_neg (by omega), if_neg (by omega), if_neg (by omega), if_pos rfl]
theorem hset_1 : hset hd m G p (4 * m + 1) = figN (G (p + 1)) := by
  unfold hset
  rw [mW_at, mW_at, mW_at, if_neg (by omega), if_neg (by omega), if_pos rfl]
theorem hset_2 : hset hd m G p (4 * m + 2) = figN (G (p + 2)) := by
  unfold hset
  rw [mW_at, mW_at, if_neg (by omega), if_pos rfl]
theorem hset_3 : hset hd m G p (4 * m + 3) = if G (p + 3) = 45 then 99 else figN (G (p + 3)) := by
  unfold hset
  rw [mW_at, if_pos rfl]
theorem HB_old {h : Nat} (hh : h < m) (hb : HB hd h) : HB (hset hd m G p) h := by
  unfold HB
  have e0 : hset hd m G p (4 * h) = hd (4 * h) := hset_old (c := 0) hh (by omega)
  rw [e0, hset_old (c := 1) hh (by omega), hset_old (c := 2) hh (by omega), hset_old (c := 3) hh (by omega)]
  exact hb
theorem kind_nI (h : ¬ kindI (G p) = -9) : kindI (G p) = nI (kindI (G p)).toNatClampNeg ∧ (kindI (G p)).toNatClampNeg ≤ 5 := by
  rcases kind_is (G p) with e | ⟨c, hc, e⟩
  · exact absurd e h
  · rw [e, nI_clamp (by omega)]
    exact ⟨rfl, hc⟩
theorem HB_new (h0 : ¬ kindI (G p) = -9) (h1 : figN (G (p + 1)) ≤ 9) (h2 : figN (G (p + 2)) ≤ 3) (h3 : G (p + 3) = 45 ∨ figN (G (p + 3)) ≤ 9) : HB (hset hd m G p) m := by
  unfold HB
  rw [hset_0, hset_1, hset_2, hset_3]
  refine ⟨(kind_nI h0).2, h1, h2, ?_⟩
  by_cases c : G (p + 3) = 45
  · rw [if_pos c]; exact Or.inr rfl
  · rw [if_neg c]; exact Or.inl (h3.resolve_left c)
theorem c_addHouse (hp : p ≤ 60) (hP : PF a f) (ht : TX I t z G) (hc : CLR I a f m w hd wd) (hm : m < 5) (h0 : ¬ kindI (G p) = -9) (h1 : figN (G (p + 1)) ≤ 9) (h2 : figN (G (p + 2)) ≤ 3) (h3 : G (p + 3) = 45 ∨ figN (G (p + 3)) ≤ 9)
    (hK : ∀ I', SR2 a f I I' → CLR I' a f (m + 1) w (hset hd m G p) wd → KV I' X) : CV g (d + 3) iX6_addHouse [rf g (textA t), .int (nI p), rf g a, rf g f] I X KV := by
  have hP' : (a = 62 ∧ f = 66) ∨ (a = 24 ∧ f = 30) := hP
  obtain ⟨c1, c2, c3, c4, c5, c6, c7, c8, c9, c10⟩ := hc
  refine en_X6_addHouse (textA_mem ht.1) hP.lane hP.fire ?_
  rw [show nI p + 3 = nI (p + 3) from nI_add p 3, show nI p + 1 = nI (p + 1) from nI_add p 1, show nI p + 2 = nI (p + 2) from nI_add p 2]
  refine ht.get (by omega) (ht.get (by omega) (ht.get (by omega) ?_))
  rw [c1, fig_sub h1, fig_sub (by omega : figN (G (p + 2)) ≤ 9)]
  refine c_X1_furnish (by omega) hP.fire ?_
  have tS : ∀ I', (∀ b k, ¬ (f ≤ b ∧ b ≤ f + 2) → I' b k = I b k) → TX I' t z G := fun I' h' => ht.same (fun b k hb => h' b k (by omega))
  have hs1 : ∀ b k, ¬ (f ≤ b ∧ b ≤ f + 2) → set2 (set2 I (f + 1) m (nI (figN (G (p + 1))))) (f + 2) m (nI (figN (G (p + 2)))) b k = I b k := fun b k hb => by rw [set2_at, if_neg (by omega), set2_at, if_neg (by omega)]
  have hm1 : set2 (set2 I (f + 1) m (nI (figN (G (p + 1))))) (f + 2) m (nI (figN (G (p + 2)))) (f + 1) m = nI (figN (G (p + 1))) := by rw [set2_at, if_neg (by omega), set2_at, if_pos ⟨rfl, rfl⟩]
  have hm2 : set2 (set2 I (f + 1) m (nI (figN (G (p + 1))))) (f + 2) m (nI (figN (G (p + 2)))) (f + 2) m = nI (figN (G (p + 2))) := by rw [set2_at, if_pos ⟨rfl, rfl⟩]
  have ho1 : ∀ c h, h ≠ m → set2 (set2 I (f + 1) m (nI (figN (G (p + 1))))) (f + 2) m (nI (figN (G (p + 2)))) c h = I c h := fun c h hh => by rw [set2_at, if_neg (by omega), set2_at, if_neg (by omega)]
  have ho2 : ∀ h, set2 (set2 I (f + 1) m (nI (figN (G (p + 1))))) (f + 2) m (nI (figN (G (p + 2)))) f h = I f h := fun h => by rw [set2_at, if_neg (by omega), set2_at, if_neg (by omega)]
  generalize set2 (set2 I (f + 1) m (nI (figN (G (p + 1))))) (f + 2) m (nI (figN (G (p + 2)))) = I1 at hs1 hm1 hm2 ho1 ho2
  refine (tS I1 hs1).get (by omega) (c_X2_byLetter ?_)
  obtain ⟨k1, k2⟩ := kind_nI h0
  -- the lane takes the house
  have put : ∀ v : Int32, v = ndI (if G (p + 3) = 45 then 99 else figN (G (p + 3))) → CV g (d + 2) iX3_addHouse [rf g a, .int (kindI (G p)), .int v] I1 X KV := by
    intro v hv
    refine en_X3_addHouse hP.lane (en_X3_isFull hP.lane ?_)
    have c1' : I1 a 4 = nI m := by rw [hs1 a 4 (by omega)]; exact c1
    rw [c1']
    refine ⟨fun _ => t_zero' ⟨vp_in_nI (by omega) (by decide), fun I5 e5 => ?_⟩, fun c => absurd (nI_lt (b := 5) hm (by decide)) c⟩
    rw [nI_clamp (by omega)] at e5
    have c54 : I5 a 4 = nI m := by rw [e5, set2_at, if_neg (by omega)]; exact c1'
    rw [c54]
    refine ⟨vp_in_nI (by omega) (by decide), fun I7 e7 I8 e8 => ?_⟩
    rw [nI_clamp (by omega)] at e7
    have c74 : I7 a 4 = nI m := by rw [e7, set2_at, if_neg (by omega)]; exact c54
    rw [c74, nI_1] at e8
    have at8 : ∀ b k, I8 b k = if b = a ∧ k = 4 then nI (m + 1) else if b = a + 2 ∧ k = m then v else if b = a + 1 ∧ k = m then kindI (G p) else I1 b k := fun b k => by rw [e8, set2_at, e7, set2_at, e5, set2_at]
    have ot8 : ∀ b k, ¬ (b = a ∧ k = 4) → ¬ (b = a + 2 ∧ k = m) → ¬ (b = a + 1 ∧ k = m) → I8 b k = I1 b k := fun b k q1 q2 q3 => by rw [at8, if_neg q1, if_neg q2, if_neg q3]
    refine hK I8 (fun b k hb => ?_) ⟨?_, by omega, ?_, c4, fun h hh => ?_, fun k hk => ?_, ?_, ?_, ?_, ?_⟩
    · rw [ot8 b k (by omega) (by omega) (by omega), hs1 b k (by omega)]
    · rw [at8, if_pos ⟨rfl, rfl⟩]
    · rw [ot8 a 3 (by omega) (by omega) (by omega), hs1 a 3 (by omega)]; exact c3
    · by_cases e : h = m
      · subst e
        refine ⟨⟨?_, ?_, ?_, ?_⟩, HB_new h0 h1 h2 h3⟩
        · rw [at8, if_neg (by omega), if_neg (by omega), if_pos ⟨rfl, rfl⟩, hset_0]; exact k1
        · rw [at8, if_neg (by omega), if_pos ⟨rfl, rfl⟩, hset_3]; exact hv
        · rw [ot8 _ h (by omega) (by omega) (by omega), hm1, hset_1]
        · rw [ot8 _ h (by omega) (by omega) (by omega), hm2, hset_2]
      · obtain ⟨⟨g1, g2, g3, g4⟩, g5⟩ := c5 h (by omega)
        have h4 : hset hd m G p (4 * h) = hd (4 * h) := hset_old (c := 0) (by omega) (by omega)
        refine ⟨⟨?_, ?_, ?_, ?_⟩, HB_old (by omega) g5⟩
        · rw [ot8 _ h (by omega) (by omega) (by omega), ho1 _ h e, h4]; exact g1
        · rw [ot8 _ h (by omega) (by omega) (by omega), ho1 _ h e, hset_old (by omega) (by omega)]; exact g2
        · rw [ot8 _ h (by omega) (by omega) (by omega), ho1 _ h e, hset_old (by omega) (by omega)]; exact g3
        · rw [ot8 _ h (by omega) (by omega) (by omega), ho1 _ h e, hset_old (by omega) (by omega)]; exact g4
    · rw [ot8 _ k (by omega) (by omega) (by omega), hs1 _ k (by omega)]; exact c6 k hk
    · rw [ot8 _ _ (by omega) (by omega) (by omega), ho2]; exact c7
    · rw [ot8 _ _ (by omega) (by omega) (by omega), ho2]; exact c8
    · rw [ot8 _ _ (by omega) (by omega) (by omega), ho2]; exact c9
    · rw [ot8 _ _ (by omega) (by omega) (by omega), ho2]; exact c10
  refine ⟨fun c => put _ ?_, fun c => put _ ?_⟩
  · rw [if_neg c, fig_sub (h3.resolve_left c)]
    unfold ndI
    rw [if_neg (by have := h3.resolve_left c; omega)]
  · rw [if_pos c]
    rfl
theorem c_faultOfHouse (hp : p ≤ 60) (ht : TX I t z G)
    (e0 : kindI (G p) = -9 → K (nI p) I X)
    (e1 : ¬ kindI (G p) = -9 → ¬ figN (G (p + 1)) ≤ 9 → K (nI (p + 1)) I X)
    (e2 : ¬ kindI (G p) = -9 → figN (G (p + 1)) ≤ 9 → ¬ figN (G (p + 2)) ≤ 3 → K (nI (p + 2)) I X)
    (e3 : ¬ kindI (G p) = -9 → figN (G (p + 1)) ≤ 9 → figN (G (p + 2)) ≤ 3 → ¬ (G (p + 3) = 45 ∨ figN (G (p + 3)) ≤ 9) → K (nI (p + 3)) I X)
    (e4 : ¬ kindI (G p) = -9 → figN (G (p + 1)) ≤ 9 → figN (G (p + 2)) ≤ 3 → (G (p + 3) = 45 ∨ figN (G (p + 3)) ≤ 9) → K (-9) I X) : CI g (d + 3) iX6_faultOfHouse [rf g (textA t), .int (nI p)] I X K := by
  refine en_X6_faultOfHouse (textA_mem ht.1) ?_
  rw [show nI p + 3 = nI (p + 3) from nI_add p 3, show nI p + 1 = nI (p + 1) from nI_add p 1, show nI p + 2 = nI (p + 2) from nI_add p 2]
  refine ht.get (by omega) (c_X2_byLetter ⟨fun q0 => ht.get (by omega) (c_X6_isFigure (hi := 9) (by omega) (fun q1 => t_one' ?_) (fun q1 => t_zero' (e1 q0 q1))), fun q0 => e0 q0⟩)
  refine ht.get (by omega) (c_X6_isFigure (hi := 3) (by omega) (fun q2 => t_one' ?_) (fun q2 => t_zero' (e2 q0 q1 q2)))
  refine ht.get (by omega) ⟨fun q3 => e4 q0 q1 q2 (Or.inl q3), fun q3 => ht.get (by omega) (c_X6_isFigure (hi := 9) (by omega) (fun q4 => t_one' (e4 q0 q1 q2 (Or.inr q4))) (fun q4 => t_zero' (e3 q0 q1 q2 (fun y => y.elim q3 q4))))⟩
theorem m9_nI {k : Nat} (h : k < 2 ^ 30) : ¬ nI k = (-9) := fun e => by
  have := nI_pos' (n := k) (by omega)
  rw [e] at this
  exact absurd this (by decide)
theorem ndI_lt {k : Nat} (h : k ≠ 99) : ndI k = nI k := if_neg h
theorem lp_houses (hP : PF a f) (hI0 : TX I t z G) (hK : ∀ I' (R : RD), SR2 a f I I' → R = houR G z w wd 61 p 0 hd → (R.1 = 99 → CLR I' a f R.2.1 R.2.2.1 R.2.2.2.1 R.2.2.2.2 ∧ 0 < R.2.1 ∧ R.2.2.1 = w) → (R.1 = 99 ∨ R.1 ≤ 63) → K (ndI R.1) I' X) : ∀ (r m p' q : Nat) (hd' : Nat → Nat) (I' : IT), m + r = 5 → p' ≤ z → z + 1 ≤ p' + q → ¬ G p' = 32 → SR2 a f I I' → CLR I' a f m w hd' wd → houR G z w wd q p' m hd' = houR G z w wd 61 p 0 hd → SR g (d + 4) iX6_read 61 [(1, rf g (textA t)), (2, rf g a), (3, rf g f), (4, .int (nI p')), (5, .int (nI m))] I' X (qI K) := by
  have hP' : (a = 62 ∧ f = 66) ∨ (a = 24 ∧ f = 30) := hP
  have hz := hI0.2.2.1
  intro r
  induction r with
  | zero =>
    intro m p' q hd' I' hm hp' hq h32 hS hc he
    obtain rfl : m = 5 := by omega
    obtain ⟨q2, rfl⟩ : ∃ q2, q = q2 + 1 := ⟨q - 1, by omega⟩
    have ht : TX I' t z G := hI0.same (fun b k hb => hS b k (by omega))
    refine rg_X6_read_61 (textA_mem hI0.1) hP.lane hP.fire ⟨fun _ => ht.has (by omega) (fun c => t_one' ?_) (fun c => t_zero' (en_X3_isEmpty hP.lane ?_)), fun c => absurd (Int32.le_refl _) c⟩
    · have e : houR G z w wd (q2 + 1) p' 5 hd' = (p', 5, w, hd', wd) := by
        show (if z ≤ p' then _ else _) = _
        rw [if_neg (by omega), if_neg h32, if_pos (Or.inr rfl)]
      have := hK I' _ hS (e.symm.trans he) (fun y => absurd y (by show p' ≠ 99; omega)) (Or.inr (by show p' ≤ 63; omega))
      rw [ndI_lt (by show p' ≠ 99; omega)] at this
      exact this
    · rw [hc.1]
      have e : houR G z w wd (q2 + 1) p' 5 hd' = (99, 5, w, hd', wd) := by
        show (if z ≤ p' then _ else _) = _
        rw [if_pos c]
        rfl
      exact ⟨fun _ => t_zero (hK I' _ hS (e.symm.trans he) (fun _ => ⟨hc, by show 0 < 5; decide, rfl⟩) (Or.inl rfl)), fun y => absurd (nI_lt (a := 0) (b := 5) (by decide) (by decide)) y⟩
  | succ r ih =>
    intro m p' q hd' I' hm hp' hq h32 hS hc he
    obtain ⟨q2, rfl⟩ : ∃ q2, q = q2 + 1 := ⟨q - 1, by omega⟩
    have ht : TX I' t z G := hI0.same (fun b k hb => hS b k (by omega))
    refine rg_X6_read_61 (textA_mem hI0.1) hP.lane hP.fire ⟨fun c => absurd c (nI_ge (a := m) (b := 5) (by omega) (by decide)), fun _ => ht.has (by omega) (fun c => t_one ?_) (fun c => t_zero (ht.has (by omega) (fun c2 => by omega) (fun _ => t_zero' (en_X3_isEmpty hP.lane ?_))))⟩
    · have nf : ∀ v, v ≤ 63 → houR G z w wd (q2 + 1) p' m hd' = (v, m, w, hd', wd) → (nI v = (-9) → CV g (d + 3) iX6_addHouse [rf g (textA t), .int (nI p'), rf g a, rf g f] I' X (fun I19 X20 => CI g (d + 3) iX6_skipBlanks [rf g (textA t), .int (nI p' + 4)] I19 X20 (fun r21 I22 X23 => ∀ x24 : Int32, x24 = nI m + 1 → SR g (d + 4) iX6_read 61 [(1, rf g (textA t)), (2, rf g a), (3, rf g f), (4, .int r21), (5, .int x24)] I22 X23 (qI K)))) ∧ (¬ nI v = (-9) → K (nI v) I' X) := by
        intro v hv e
        refine ⟨fun y => ?_, fun _ => ?_⟩
        · exact absurd y (m9_nI (by omega))
        · have := hK I' _ hS (e.symm.trans he) (fun y => absurd y (by show v ≠ 99; omega)) (Or.inr hv)
          rw [ndI_lt (by show v ≠ 99; omega)] at this
          exact this
      have ex : houR G z w wd (q2 + 1) p' m hd' = if z ≤ p' then (if m = 0 then z else 99, m, w, hd', wd) else if G p' = 32 then houR G z w wd q2 (p' + 1) m hd' else if kindI (G p') = -9 ∨ m = 5 then (p', m, w, hd', wd) else if ¬ figN (G (p' + 1)) ≤ 9 then (p' + 1, m, w, hd', wd) else if ¬ figN (G (p' + 2)) ≤ 3 then (p' + 2, m, w, hd', wd) else if ¬ (G (p' + 3) = 45 ∨ figN (G (p' + 3)) ≤ 9) then (p' + 3, m, w, hd', wd) else houR G z w wd q2 (p' + 4) (m + 1) (hset hd' m G p') := rfl
      rw [if_neg (by omega), if_neg h32] at ex
      refine c_faultOfHouse (by omega) ht (fun y0 => nf p' (by omega) ?_) (fun y0 y1 => nf (p' + 1) (by omega) ?_) (fun y0 y1 y2 => nf (p' + 2) (by omega) ?_) (fun y0 y1 y2 y3 => nf (p' + 3) (by omega) ?_) (fun y0 y1 y2 y3 => ⟨fun _ => ?_, fun y => absurd rfl y⟩)
      · rw [ex, if_pos (Or.inl y0)]
      · rw [ex, if_neg (by intro y; exact y.elim y0 (by omega)), if_pos y1]
      · rw [ex, if_neg (by intro y; exact y.elim y0 (by omega)), if_neg (fun y => y y1), if_pos y2]
      · rw [ex, if_neg (by intro y; exact y.elim y0 (by omega)), if_neg (fun y => y y1), if_neg (fun y => y y2), if_pos y3]
      · rw [if_neg (by intro y; exact y.elim y0 (by omega)), if_neg (fun y => y y1), if_neg (fun y => y y2), if_neg (fun y => y y3)] at ex
        have h4 : p' + 4 ≤ z := by
          refine Nat.not_lt.mp (fun c4 => ?_)
          have := hI0.2.2.2.2 (p' + 3) (by omega)
          rw [this] at y3
          rcases y3 with y3 | y3
          · exact absurd y3 (by decide)
          · rw [fig_1000] at y3; omega
        refine c_addHouse (by omega) hP ht hc (by omega) y0 y1 y2 y3 (fun I2 h2 hc2 => ?_)
        have ht2 : TX I2 t z G := ht.same (fun b k hb => h2 b k (by omega))
        rw [show nI p' + 4 = nI (p' + 4) from nI_add p' 4]
        refine c_skip ht2 h4 (fun p2 a1 a2 a3 a4 x24 e24 => ?_)
        subst e24
        rw [nI_1]
        obtain ⟨q', b1, b2⟩ := hou_skip (w := w) (wd := wd) (m := m + 1) (hd := hset hd' m G p') a2 (p2 - (p' + 4)) (p' + 4) q2 (by omega) (by omega) a3
        exact ih (m + 1) p2 q' _ I2 (by omega) a2 b1 a4 (hS.trans h2) hc2 (by rw [← b2, ← ex]; exact he)
    · rw [hc.1]
      have ez : p' = z := by omega
      by_cases m0 : m = 0
      · subst m0
        have e : houR G z w wd (q2 + 1) p' 0 hd' = (z, 0, w, hd', wd) := by
          show (if z ≤ p' then _ else _) = _
          rw [if_pos c]
          rfl
        refine ⟨fun y => absurd y (by decide), fun _ => t_one ?_⟩
        have := hK I' _ hS (e.symm.trans he) (fun y => absurd y (by show z ≠ 99; omega)) (Or.inr (by show z ≤ 63; omega))
        rw [ndI_lt (by show z ≠ 99; omega)] at this
        rw [ez]
        exact this
      · have e : houR G z w wd (q2 + 1) p' m hd' = (99, m, w, hd', wd) := by
          show (if z ≤ p' then _ else _) = _
          rw [if_pos c, if_neg m0]
        refine ⟨fun _ => t_zero (hK I' _ hS (e.symm.trans he) (fun _ => ⟨hc, by show 0 < m; omega, rfl⟩) (Or.inl rfl)), fun y => absurd (nI_lt (a := 0) (b := m) (by omega) (by omega)) y⟩
end T84

/-! ===== can ===== -/
def R00 : PR := (0, fun _ => 0, 0, 0, 0)
section T70
variable {g : OG} {d : Nat} {I : IT} {X : XT} {K : Int32 → IT → XT → Prop} {KV : IT → XT → Prop}
variable {n w : Nat} {kd nd wd : Nat → Nat} {F : Nat → Nat} {m f a D : Nat} {dd : Nat → Nat} {S : Nat → Nat → Nat}
variable {goal wanted hours p aim : Nat} {R : PR} {mv : Nat → Nat}
def SS (I I' : IT) : Prop := Same (fun b k => (b = 72 ∧ 3 ≤ k ∧ k ≤ 9) ∨ b = 74 ∨ b = 75 ∨ (76 ≤ b ∧ b ≤ 90)) I I'
def ST (I I' : IT) : Prop := Same (fun b k => (b = 129 ∧ 31 ≤ k ∧ k ≤ 36) ∨ b = 149 ∨ b = 150 ∨ (b = 142 ∧ 18 ≤ k)) I I'
def allS (n w goal wanted hours : Nat) (kd nd wd F : Nat → Nat) : PR := walkS n w goal wanted kd nd wd hours 0 F (fun _ => 0) R00
theorem c_X5_search (hg : goal ≤ 3) (hwn : wanted < 32) (hh4 : hours ≤ 4) (he : iE I n w kd nd wd) (hf : FR I 33 n F) (hw : WF n F m) (hm : m ≤ 80) (hK : ∀ I', SS I I' → PC I' goal wanted hours (allS n w goal wanted hours kd nd wd F) → KV I' X) : CV g (d + 14) iX5_search [rf g 72, rf g 33, .int (nI hours), .int (nI goal), .int (nI wanted)] I X KV := by
  have hn := he.1.2.2
  refine en_X5_search (p1 := 33) (by decide) (fun I1 e1 I2 e2 I3 e3 I4 e4 I5 e5 I6 e6 I7 e7 => ⟨vp_in_nI (n := 0) (N := 5) (by decide) (by decide), ?_⟩)
  have ea : (if (4 : Int32) < nI hours then 4 else nI hours : Int32) = nI hours := if_neg (nI_nlt (a := 4) (by omega) (by decide))
  have eb : (if (0 : Int32) < nI hours then nI hours else 0 : Int32) = nI hours := by
    by_cases z : hours = 0
    · subst z; decide
    · exact if_pos (nI_lt (a := 0) (b := hours) (by omega) (by omega))
  rw [ea, eb] at e1
  have hs7 : ∀ b k, ¬ (b = 72 ∧ 3 ≤ k ∧ k ≤ 9) → I7 b k = I b k := fun b k hb => by
    rw [e7, set2_at, if_neg (by omega), e6, set2_at, if_neg (by omega), e5, set2_at, if_neg (by omega), e4, set2_at, if_neg (by omega), e3, set2_at, if_neg (by omega), e2, set2_at, if_neg (by omega), e1, set2_at, if_neg (by omega)]
  have p3 : I7 72 3 = nI goal := by rw [e7, set2_at, if_neg (by omega), e6, set2_at, if_neg (by omega), e5, set2_at, if_neg (by omega), e4, set2_at, if_neg (by omega), e3, set2_at, if_neg (by omega), e2, set2_at, if_pos ⟨rfl, rfl⟩]
  have p4 : I7 72 4 = nI wanted := by rw [e7, set2_at, if_neg (by omega), e6, set2_at, if_neg (by omega), e5, set2_at, if_neg (by omega), e4, set2_at, if_neg (by omega), e3, set2_at, if_pos ⟨rfl, rfl⟩]
  have p5 : I7 72 5 = nI hours := by rw [e7, set2_at, if_neg (by omega), e6, set2_at, if_neg (by omega), e5, set2_at, if_neg (by omega), e4, set2_at, if_neg (by omega), e3, set2_at, if_neg (by omega), e2, set2_at, if_neg (by omega), e1, set2_at, if_pos ⟨rfl, rfl⟩]
  have p6 : I7 72 6 = -1 := by rw [e7, set2_at, if_neg (by omega), e6, set2_at, if_neg (by omega), e5, set2_at, if_neg (by omega), e4, set2_at, if_pos ⟨rfl, rfl⟩]
  have p7 : I7 72 7 = 0 := by rw [e7, set2_at, if_neg (by omega), e6, set2_at, if_neg (by omega), e5, set2_at, if_pos ⟨rfl, rfl⟩]
  have p8 : I7 72 8 = 0 := by rw [e7, set2_at, if_neg (by omega), e6, set2_at, if_pos ⟨rfl, rfl⟩]
  have p9 : I7 72 9 = 0 := by rw [e7, set2_at, if_pos ⟨rfl, rfl⟩]
  have hf7 : FR I7 33 n F := hf.same (fun b k hb => hs7 b k (by omega))
  refine c_X1_become (a := plvA 0) (p := 33) (by decide) (by decide) (by decide) hn hf7 hw.2.2.1 hw.2.2.2.1 (fun I9 h9 hf9 => ?_)
  have hs9 : ∀ b k, ¬ (76 ≤ b ∧ b ≤ 78) → I9 b k = I7 b k := fun b k hb => h9 b k (by unfold plvA; omega)
  rw [show d + 13 = (d + (8 - 2 * hours)) + 2 * hours + 5 by omega]
  refine c_X5_walk hg hwn hh4 hours 0 m F (fun _ => 0) R00 I9 _ (by omega) (by omega) (he.same (fun b k hb => by rw [hs9 b k (by omega), hs7 b k (by omega)])) hf9 hw ⟨?_, ?_, ?_, ?_, Nat.zero_le _, fun _ => ⟨?_, ?_, ?_⟩, fun z => absurd z (Nat.lt_irrefl 0)⟩ (fun k hk => absurd hk (Nat.not_lt_zero k)) (fun I' h' hp => hK I' (fun b k hb => by rw [h' b k (by omega), hs9 b k (by omega), hs7 b k (by omega)]) hp)
  · rw [hs9 72 3 (by omega)]; exact p3
  · rw [hs9 72 4 (by omega)]; exact p4
  · rw [hs9 72 5 (by omega)]; exact p5
  · rw [hs9 72 6 (by omega), p6]; decide
  · rw [hs9 72 7 (by omega)]; exact p7
  · rw [hs9 72 8 (by omega)]; exact p8
  · rw [hs9 72 9 (by omega)]; exact p9
theorem c_X11_allPlans (hag : AG aim goal) (hwn : wanted < 32) (hh4 : hours ≤ 4) (he : iE I n w kd nd wd) (hf : FM I 0 F) (hw : WF n F m) (hm : m ≤ 80) (hK : ∀ I', ST I I' → PMd I' aim wanted hours (allS n w goal wanted hours kd nd wd F) → KV I' X) : CV g (d + 9) iX11_allPlans [rf g 129, .int (nI aim), .int (nI hours), .int (nI wanted)] I X KV := by
  have hn := he.1.2.2
  refine en_X11_allPlans (fun I1 e1 I2 e2 I3 e3 I4 e4 I5 e5 I6 e6 => ?_)
  have hs6 : ∀ b k, ¬ (b = 129 ∧ 31 ≤ k ∧ k ≤ 36) → I6 b k = I b k := fun b k hb => by
    rw [e6, set2_at, if_neg (by omega), e5, set2_at, if_neg (by omega), e4, set2_at, if_neg (by omega), e3, set2_at, if_neg (by omega), e2, set2_at, if_neg (by omega), e1, set2_at, if_neg (by omega)]
  have p31 : I6 129 31 = 0 := by rw [e6, set2_at, if_neg (by omega), e5, set2_at, if_neg (by omega), e4, set2_at, if_neg (by omega), e3, set2_at, if_neg (by omega), e2, set2_at, if_neg (by omega), e1, set2_at, if_pos ⟨rfl, rfl⟩]
  have p32 : I6 129 32 = -1 := by rw [e6, set2_at, if_neg (by omega), e5, set2_at, if_neg (by omega), e4, set2_at, if_neg (by omega), e3, set2_at, if_neg (by omega), e2, set2_at, if_pos ⟨rfl, rfl⟩]
  have p33 : I6 129 33 = 0 := by rw [e6, set2_at, if_neg (by omega), e5, set2_at, if_neg (by omega), e4, set2_at, if_neg (by omega), e3, set2_at, if_pos ⟨rfl, rfl⟩]
  have p34 : I6 129 34 = 0 := by rw [e6, set2_at, if_neg (by omega), e5, set2_at, if_neg (by omega), e4, set2_at, if_pos ⟨rfl, rfl⟩]
  have p35 : I6 129 35 = 0 := by rw [e6, set2_at, if_neg (by omega), e5, set2_at, if_pos ⟨rfl, rfl⟩]
  have p36 : I6 129 36 = nI wanted := by rw [e6, set2_at, if_pos ⟨rfl, rfl⟩]
  refine c_X11_copyTo (s := 0) (t := 1) (by decide) (by decide) (by decide) (F := F) (fun k hk => by rw [hs6 142 _ (by omega)]; exact hf k hk) (fun I7 h7 hf7 => ?_)
  rw [show d + 8 = (d + (4 - hours)) + hours + 4 by omega]
  refine c_X11_layPlans hag hwn hh4 hours 0 m F (fun _ => 0) R00 I7 _ (by omega) (by omega) (he.same (fun b k hb => by rw [h7 b k (by omega), hs6 b k (by omega)])) hf7 hw ⟨?_, ?_, ?_, ?_, Nat.zero_le _, fun _ => ?_, fun _ => ?_, fun z => absurd z (Nat.lt_irrefl 0)⟩ (fun k hk => absurd hk (Nat.not_lt_zero k)) (fun I' h' hp => hK I' (fun b k hb => by rw [h' b k (by omega), h7 b k (by omega), hs6 b k (by omega)]) hp)
  · rw [h7 129 36 (by omega)]; exact p36
  · rw [h7 129 34 (by omega)]; exact p34
  · rw [h7 129 35 (by omega)]; exact p35
  · rw [h7 129 33 (by omega)]; exact p33
  · rw [h7 129 31 (by omega)]; exact p31
  · rw [h7 129 32 (by omega), p32]; decide
theorem SS.out {I' : IT} (h : SS I I') : Same Out I I' := h.weak (fun b k hb => by unfold Out; omega)
theorem ST.out {I' : IT} (h : ST I I') : Same Out I I' := h.weak (fun b k hb => by unfold Out; omega)
theorem walk_n0 : ∀ (r p : Nat) (F mv : Nat → Nat) (R : PR), R.2.2.2.2 = 0 → (walkS 0 w goal wanted kd nd wd r p F mv R).2.2.2.2 = 0
  | 0, p, F, mv, R, h => by
    show R.2.2.2.2 ||| bset F 0 = 0
    rw [h, show bset F 0 = 0 from rfl]; decide
  | r + 1, p, F, mv, R, h => by
    rw [walkS_s]
    have key : ∀ (q i : Nat) (R : PR), R.2.2.2.2 = 0 → (loopS (stepS 0 w goal wanted kd nd wd r p F mv) q i R).2.2.2.2 = 0 := by
      intro q
      induction q with
      | zero => exact fun _ _ h => h
      | succ q ih =>
        intro i R h
        refine ih (i + 1) _ ?_
        unfold stepS
        split
        · exact walk_n0 r (p + 1) _ _ R h
        · exact h
    exact key 37 0 R h
theorem op_can {v : Int32} (h : Inv I X) : PairI g (d + 15) iX10_can iX11_can [.int v] I X := by
  obtain ⟨n, w, kd, nd, wd, D, dd, S, hE, hV, hK⟩ := h.2.2.2.2.2
  have hn := hE.1.2.2
  obtain ⟨v1, v2, v3, v4, v5, v6, v7⟩ := id hV
  have hD := v1.1
  have hw := v1.2.2.1 D (Nat.le_refl D)
  have e10 : nI n = 0 ↔ n = 0 := nI_eqL 0 (by omega) (by decide)
  refine en_X10_can (c_X10_isAhead (fun q => t_one' ?_) (fun q => t_zero' (en_X11_can (c_X11_in (fun z => absurd ((inB (n := 4) (by decide)).mp z) q) (fun _ => t_zero' ⟨rfl, h⟩)))))
  obtain ⟨hr, hr5, rfl⟩ := vp_in_of q (by decide)
  have hin := (inB (n := 4) (by decide)).mpr q
  refine c_X5_search (goal := 0) (wanted := 0) (hours := hr) (by decide) (by decide) (by omega) hE v2.2.2.2 hw (by omega) (fun I1 h1 p1 => ?_)
  have e9 := (p1.2.2.2.2.2.1 (by decide)).2.2
  have hE1 : iE I1 n w kd nd wd := hE.same (fun b k hb => h1 b k (by omega))
  have hF1 : FM I1 0 (S D) := FM0.mpr (fun k hk => by rw [h1 142 k (by omega)]; exact v6 k hk)
  refine en_X11_can (c_X11_in (fun _ => t_one' ?_) (fun z => absurd hin z))
  rw [hE1.1.2.1, e10, e9]
  refine ⟨fun q0 => ?_, fun q0 => ?_⟩
  · refine c_X11_allPlans (aim := 0) (goal := 0) (wanted := 0) (hours := hr) (Or.inl ⟨rfl, rfl⟩) (by decide) (by omega) hE1 hF1 hw (by omega) (fun I2 h2 p2 => ⟨?_, inv_out (inv_out h h1.out h.2.2.1) h2.out h.2.2.1⟩)
    rw [p2.2.2.2.1]
  · subst q0
    refine ⟨?_, inv_out h h1.out h.2.2.1⟩
    rw [show (allS 0 w 0 0 hr kd nd wd (S D)).2.2.2.2 = 0 from walk_n0 hr 0 _ _ R00 rfl]
    rfl
end T70

/-! ===== smoke: the call ===== -/
section T79
variable {g : OG} {d : Nat} {I : IT} {X : XT} {K : Int32 → IT → XT → Prop} {KV : IT → XT → Prop}
theorem op_smoke {v : Int32} (h : Inv I X) : PairI g (d + 18) iX10_smoke iX11_smoke [.int v] I X := by
  obtain ⟨n, w, kd, nd, wd, D, dd, S, hE, hV, hK⟩ := h.2.2.2.2.2
  have hn := hE.1.2.2
  obtain ⟨v1, v2, v3, v4, v5, v6, v7⟩ := id hV
  have hD := v1.1
  have hw := v1.2.2.1 0 (Nat.zero_le D)
  have h16 := v1.2.2.2.2.1
  have e10 : nI n = 0 ↔ n = 0 := nI_eqL 0 (by omega) (by decide)
  have h32 : (2 : Nat) ^ n ≤ 2 ^ 5 := Nat.pow_le_pow_right (by decide) hn
  have h2p : 0 < 2 ^ n := Nat.two_pow_pos n
  refine en_X10_smoke (c_X10_isRow (fun q => t_one' ?_) (fun q => t_zero' (en_X11_smoke (en_X11_needBook ⟨fun z => absurd z (by decide), fun _ => c_X11_isRow (fun z => absurd z q) (fun _ => t_zero' ⟨fun z => absurd z m1_nle, fun _ => ⟨rfl, h⟩⟩)⟩))))
  obtain ⟨j, hj, rfl⟩ := vp_in_of q (by decide)
  have tc : (nI j).toNatClampNeg = j := nI_clamp (by omega)
  refine c_X3_isEmpty hE (fun q0 => t_one ?_) (fun q0 => t_zero ⟨q, c_X3_allHouses hE ?_⟩)
  · refine en_X11_smoke (en_X11_needBook ⟨fun z => absurd z (by decide), fun _ => c_X11_isRow (fun _ => t_one' ?_) (fun z => absurd q z)⟩)
    rw [hE.1.2.1, e10]
    exact ⟨fun z => absurd q0 z, fun _ => ⟨fun z => absurd z (by decide), fun _ => ⟨rfl, h⟩⟩⟩
  rw [tc]
  have hra : 3 ≤ rowA j ∧ rowA j + 1 < 16 := by unfold rowA; omega
  have hrow : ∀ f, fndC I f 131 j = (-1) ∨ ∃ z, z ≤ 40 ∧ fndC I f 131 j = nI z := by
    intro f
    rw [fndC_at (by omega)]
    rcases (h.2.2.2.1 j hj).2 with g2 | ⟨z, hz, g2, _⟩
    · exact Or.inl g2
    · exact Or.inr ⟨z, hz, g2⟩
  have hEf : ∀ f, iE (fndC I f) n w kd nd wd := fun f => hE.same (fun b k hb => fndC_at (by omega))
  have n3 : ¬ (0 : Int32) ≤ -3 := by decide
  refine c_X7_sizeRange (lo := 1) (up := 5) hj h.2.2.2.1 (by decide) (by decide) (fun g2 => ?_) (fun z hz g2 hs => ?_) (fun z g2 hz1 hz hb => ?_) (fun z g1 g2 hz1 hz g3 hb => ?_)
  · refine ⟨fun c => absurd c (by decide), fun _ => c_X10_found 1 rfl (by decide) ?_⟩
    refine en_X11_smoke (c_X11_needBook hj (by decide) q0 (hEf 1) (hrow 1) (fun _ => ⟨fun z => absurd z n3, fun _ => ⟨rfl, inv_found (by decide) h⟩⟩) (fun z hz e _ => ?_) (fun z e _ h5 _ => ?_) (fun z e _ h5 _ => ?_))
    all_goals
      rw [fndC_at (by omega), g2] at e
      exact absurd (e ▸ nI_pos' (by omega)) m1_nle
  · refine ⟨fun c => absurd c (by decide), fun _ => c_X10_found 5 rfl (by decide) ?_⟩
    refine en_X11_smoke (c_X11_needBook hj (by decide) q0 (hEf 5) (hrow 5) (fun e => ?_) (fun _ _ _ _ => ⟨fun z => absurd z n3, fun _ => ⟨rfl, inv_found (by decide) h⟩⟩) (fun z2 e h1 h5 _ => ?_) (fun z2 e h1 h5 _ => ?_))
    · rw [fndC_at (by omega), g2] at e
      exact absurd (e ▸ nI_pos' (by omega)) m1_nle
    all_goals
      rw [fndC_at (by omega), g2] at e
      have := (nI_eq (a := z) (b := z2) (by omega) (by omega)).mp e
      omega
  · refine ⟨fun c => absurd c (by decide), fun _ => c_X10_found 3 rfl (by decide) ?_⟩
    refine en_X11_smoke (c_X11_needBook hj (by decide) q0 (hEf 3) (hrow 3) (fun e => ?_) (fun z2 hz2 e h2 => ?_) (fun _ _ _ _ _ => ⟨fun z => absurd z n3, fun _ => ⟨rfl, inv_found (by decide) h⟩⟩) (fun z2 e h1 h5 ha => ?_))
    · rw [fndC_at (by omega), g2] at e
      exact absurd (e ▸ nI_pos' (by omega)) m1_nle
    · rw [fndC_at (by omega), g2] at e
      have := (nI_eq (a := z) (b := z2) (by omega) (by omega)).mp e
      omega
    · rw [fndC_at (by omega), g2] at e
      have := (nI_eq (a := z) (b := z2) (by omega) (by omega)).mp e
      subst this
      obtain ⟨k, hk1, hk2⟩ := hb
      have := ha k hk1
      rw [fndC_at (by omega)] at this
      exact absurd this hk2
  · have hmv : ∀ k, k < z → I 132 (40 * j + k) = nI (I 132 (40 * j + k)).toNatClampNeg ∧ (I 132 (40 * j + k)).toNatClampNeg < 32 := by
      intro k hk
      obtain ⟨u, hu, e⟩ := vp_in_of ((inB (n := 2 ^ n - 1) (by omega)).mp (hb k hk)) (by omega)
      rw [e, nI_clamp (by omega)]
      exact ⟨rfl, by omega⟩
    generalize hmm : (fun k => (I 132 (40 * j + k)).toNatClampNeg) = mm at *
    have hmv' : ∀ k, k < z → I 132 (40 * j + k) = nI (mm k) ∧ mm k < 32 := by
      intro k hk
      rw [← hmm]
      exact hmv k hk
    have bC := smC_le (n := n) (w := w) (kd := kd) (wd := wd) (bk := mm) (F := S 0) hz n
    have hg1 : 0 < Nat.gcd (smC n w kd wd mm z (S 0) n) 1 := by rw [Nat.gcd_one_right]; exact Nat.one_pos
    refine t_zero ⟨q, en_X8_search (p1 := 30) (by decide) (rowA_mem hj) (fun X1 e1 I2 e2 I3 e3 => ?_)⟩
    have hs3 : ∀ b k, b ≠ 91 → I3 b k = I b k := fun b k hb => by rw [e3, set2_at, if_neg (by omega), e2, set2_at, if_neg (by omega)]
    refine lp_X8_search (X := X1) (bk := mm) (m := 0) hj (by rw [e1]) hz I3 (by rw [hs3 _ 1 (by omega)]; exact g1) (fun k hk => by rw [hs3 _ k (by omega), g3 k hk]; exact hmv' k hk) (hE.same (fun b k hb => hs3 b k (by omega))) (v2.2.2.1.same (fun b k hb => hs3 b k (by omega))) hw (by decide) h16 (fun I4 h4 c3 c4 I17 e17 => ?_) n 0 I3 (by omega) Same.rf (by rw [e3, set2_at, if_neg (by omega), e2, set2_at, if_pos ⟨rfl, rfl⟩]; rfl) (by rw [e3, set2_at, if_pos ⟨rfl, rfl⟩]; rfl)
    rw [c4] at e17
    have e973 : I17 91 3 = nI (smC n w kd wd mm z (S 0) n) := by rw [e17, set2_at, if_neg (by omega)]; exact c3
    rw [e973, nI_l (by omega), show (1 : Int64) = lN 1 from rfl]
    refine c_X10_tell (by omega) (by decide) hg1 ?_
    have hs17 : ∀ b k, b ≠ 1 → ¬ (91 ≤ b ∧ b ≤ 110) → I17 b k = I b k := fun b k hb hb2 => by rw [e17, set2_at, if_neg (by omega), h4 b k (by omega), hs3 b k (by omega)]
    have hE17 : iE I17 n w kd nd wd := hE.same (fun b k hb => hs17 b k (by omega) (by omega))
    refine en_X11_smoke (c_X11_needBook hj (by decide) q0 hE17 (Or.inr ⟨z, by omega, by rw [hs17 131 j (by omega) (by omega)]; exact g2⟩) (fun e => ?_) (fun z2 hz2 e h2 => ?_) (fun z2 e h1 h5 hbad => ?_) (fun _ _ _ _ _ => ⟨fun _ => ?_, fun z => absurd (by decide) z⟩))
    · rw [hs17 131 j (by omega) (by omega), g2] at e
      exact absurd (e ▸ nI_pos' (by omega)) m1_nle
    · rw [hs17 131 j (by omega) (by omega), g2] at e
      have := (nI_eq (a := z) (b := z2) (by omega) (by omega)).mp e
      omega
    · rw [hs17 131 j (by omega) (by omega), g2] at e
      have := (nI_eq (a := z) (b := z2) (by omega) (by omega)).mp e
      subst this
      obtain ⟨k, hk1, hk2⟩ := hbad
      rw [hs17 132 _ (by omega) (by omega)] at hk2
      exact absurd (hb k hk1) hk2
    · refine lp_X11_smoke (bk := mm) (m := 0) hj hz I17 (by rw [hs17 131 j (by omega) (by omega)]; exact g2) (fun k hk => by rw [hs17 132 _ (by omega) (by omega)]; exact hmv' k hk) hE17 (F := S 0) (fun k hk => by rw [hs17 141 k (by omega) (by omega)]; exact v5 k hk) hw (by decide) (fun I5 h5 => ?_) n 0 I17 (by omega) Same.rf
      rw [nI_l (by omega), show (1 : Int64) = lN 1 from rfl]
      refine c_X11_fraction (by omega) (by decide) hg1 (c_X11_tells ⟨rfl, ?_⟩)
      refine inv_asked_out h (fun b k hb => ?_) iU_told
      unfold Out at hb
      rw [h5 b k (by omega), e17, set2_at, set2_at]
      by_cases y : b = 1 ∧ k = 14
      · rw [if_pos y, if_pos y]
      · rw [if_neg y, if_neg y, h4 b k (by omega), hs3 b k (by omega)]
end T79

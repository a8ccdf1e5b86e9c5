/-! ===== plans: the class's walk, level by level ===== -/
section T67
variable {g : OG} {d : Nat} {I : IT} {X : XT} {K : Int32 → IT → XT → Prop} {KV : IT → XT → Prop}
variable {n w : Nat} {kd nd wd : Nat → Nat} {F : Nat → Nat} {m f a D : Nat} {dd : Nat → Nat} {S : Nat → Nat → Nat}
variable {goal wanted hours p : Nat} {R : PR} {mv : Nat → Nat}
theorem loop_over {f : Nat → PR → PR} (hf : ∀ i R, 0 < R.1 → (f i R).1 = R.1 ∧ (f i R).2.1 = R.2.1) : ∀ (q i : Nat) (R : PR), 0 < R.1 → (loopS f q i R).1 = R.1 ∧ (loopS f q i R).2.1 = R.2.1
  | 0, _, _, _ => ⟨rfl, rfl⟩
  | q + 1, i, R, h => by
    obtain ⟨a1, a2⟩ := hf i R h
    obtain ⟨b1, b2⟩ := loop_over hf q (i + 1) (f i R) (by omega)
    exact ⟨b1.trans a1, b2.trans a2⟩
def stepS (n w goal wanted : Nat) (kd nd wd : Nat → Nat) (r p : Nat) (F mv : Nat → Nat) (i : Nat) (R : PR) : PR := if (i = 36 ∨ mvB n w kd wd F i = true) ∧ (goal = 3 → servB nd (mvd F i) n = true) then walkS n w goal wanted kd nd wd r (p + 1) (passN n kd (mvd F i)) (mW mv p i) R else R
theorem walkS_s {r : Nat} : walkS n w goal wanted kd nd wd (r + 1) p F mv R = loopS (stepS n w goal wanted kd nd wd r p F mv) 37 0 R := rfl
theorem walk_over (hg : goal = 1 ∨ goal = 3) : ∀ (r p : Nat) (F mv : Nat → Nat) (R : PR), 0 < R.1 → (walkS n w goal wanted kd nd wd r p F mv R).1 = R.1 ∧ (walkS n w goal wanted kd nd wd r p F mv R).2.1 = R.2.1
  | 0, p, F, mv, R, h => by
    have := reaN_1 (n := n) (wanted := wanted) (nd := nd) (F := F) hg
    constructor
    · show (if R.1 < reaN n goal wanted nd F then _ else R.1) = R.1
      rw [if_neg (by omega)]
    · show (if R.1 < reaN n goal wanted nd F then mv else R.2.1) = R.2.1
      rw [if_neg (by omega)]
  | r + 1, p, F, mv, R, h => by
    rw [walkS_s]
    refine loop_over (fun i R' h' => ?_) 37 0 R h
    unfold stepS
    split
    · exact walk_over hg r (p + 1) _ _ R' h'
    · exact ⟨rfl, rfl⟩
theorem PC.stay {R' : PR} (h : PC I goal wanted hours R) (hg : goal = 1 ∨ goal = 3) (h1 : R'.1 = R.1) (h2 : R'.2.1 = R.2.1) : PC I goal wanted hours R' := by
  obtain ⟨c1, c2, c3, c4, c5, c6, c7⟩ := h
  exact ⟨c1, c2, c3, by rw [h1]; exact c4, by rw [h1]; exact c5, fun z => absurd hg z, by rw [h1, h2]; exact c7⟩
theorem PC.same {I' : IT} (h : PC I goal wanted hours R) (hs : ∀ k, I' 72 k = I 72 k ∧ I' 75 k = I 75 k) : PC I' goal wanted hours R := by
  obtain ⟨c1, c2, c3, c4, c5, c6, c7⟩ := h
  refine ⟨by rw [(hs 3).1]; exact c1, by rw [(hs 4).1]; exact c2, by rw [(hs 5).1]; exact c3, by rw [(hs 6).1]; exact c4, c5, fun z => ?_, fun z k hk => by rw [(hs k).2]; exact c7 z k hk⟩
  rw [(hs 7).1, (hs 8).1, (hs 9).1]
  exact c6 z
theorem c_X5_isOver (hg : goal ≤ 3) (h : PC I goal wanted hours R) (hT : 0 < R.1 → (goal = 1 ∨ goal = 3) → K 1 I X) (hF : ¬ (0 < R.1 ∧ (goal = 1 ∨ goal = 3)) → K 0 I X) : CI g (d + 2) iX5_isOver [rf g 72] I X K := by
  obtain ⟨c1, c2, c3, c4, c5, c6, c7⟩ := h
  refine en_X5_isOver (en_X5_isFound ?_)
  rw [c4, pm1_lt _ (by omega), c1, show nI goal = 1 ↔ goal = 1 from nI_eqL 1 (by omega) (by decide), show nI goal = 3 ↔ goal = 3 from nI_eqL 3 (by omega) (by decide)]
  exact ⟨fun z => t_zero (hF (by omega)), fun z => t_one ⟨fun q => hT (by omega) (Or.inl q), fun q => ⟨fun q2 => hF (by omega), fun q2 => hT (by omega) (Or.inr q2)⟩⟩⟩
theorem WF.mvd {i : Nat} (hw : WF n F m) (hn : n ≤ 5) (hc : i = 36 ∨ mvN n w kd wd F i) : WF n (mvd F i) m := by
  unfold Jvm.Pilot.COneMatchLaw_law_r6555_71b187.mvd
  by_cases e : i = 36
  · rw [if_pos e]; exact hw
  · rw [if_neg e]
    have c := hc.resolve_left e
    exact hw.carry hn c.2.2.2.1.1 c.2.2.2.2.2.1
theorem c_bring {i : Nat} (hn : n ≤ 5) (ha : a ∈ fireL) (hf : FR I a n F) (hc : i = 36 ∨ mvN n w kd wd F i) (hK : ∀ I', SF a I I' → FR I' a n (mvd F i) → KV I' X) : CV g (d + 1) iX1_bring [rf g a, .int (nI i)] I X KV := by
  by_cases e : i = 36
  · subst e
    exact c_X1_bringN ha (hK I SF.rf hf)
  · have c := hc.resolve_left e
    refine c_X1_bring c.1 c.2.2.2.1.1 hn ha hf (fun I' h' hf' => hK I' h' ?_)
    unfold mvd
    rw [if_neg e]
    exact hf'
theorem plv_m {p : Nat} (h : p < 5) : plvA p ∈ fireL := (plv_el_all p h).2.1
theorem c_X5_take {r i : Nat} (hg : goal ≤ 3) (hp : hours = p + (r + 1)) (hh4 : hours ≤ 4) (hi : i ≤ 36) (he : iE I n w kd nd wd) (hf : FR I (76 + 3 * p) n F) (hw : WF n F m) (hm : m + (r + 1) ≤ 90) (hpc : PC I goal wanted hours R) (hmv : ∀ k, k < p → I 74 k = nI (mv k)) (hc : i = 36 ∨ mvN n w kd wd F i)
    (ih : ∀ (F' mv' : Nat → Nat) (I' : IT) (KV' : IT → XT → Prop), iE I' n w kd nd wd → FR I' (76 + 3 * (p + 1)) n F' → WF n F' (m + 1) → PC I' goal wanted hours R → (∀ k, k < p + 1 → I' 74 k = nI (mv' k)) → (∀ I2, SP (p + 1) I' I2 → PC I2 goal wanted hours (walkS n w goal wanted kd nd wd r (p + 1) F' mv' R) → KV' I2 X) → CV g (d + 2 * r + 5) iX5_walk [rf g 72, .int (nI (p + 1))] I' X KV')
    (hK : ∀ I', SP p I I' → PC I' goal wanted hours (stepS n w goal wanted kd nd wd r p F mv i R) → KV I' X) : CV g (d + 2 * r + 6) iX5_take [rf g 72, .int (nI p), .int (nI i)] I X KV := by
  have hn := he.1.2.2
  refine en_X5_take ⟨fun c => absurd c (nI_pos (by omega)), fun _ => ⟨fun _ => ?_, fun c => absurd (nI_lt (b := 4) (by omega) (by decide)) c⟩⟩
  rw [nI_1, nI_clamp (n := p) (by omega), nI_clamp (n := p + 1) (by omega)]
  refine ⟨vp_in_nI (by omega) (by decide), vp_in_nI (by omega) (by decide), ?_⟩
  refine c_X1_become (plv_m (by omega)) (plv_m (by omega)) (by unfold plvA; omega) hn hf hw.2.2.1 hw.2.2.2.1 (fun I3 h3 hf3 => ?_)
  refine c_bring (w := w) (kd := kd) (wd := wd) hn (plv_m (by omega)) hf3 hc (fun I5 h5 hf5 => ?_)
  have hs5 : SF (plvA (p + 1)) I I5 := h3.trans h5
  have hpl : plvA (p + 1) = 76 + 3 * (p + 1) := rfl
  have he5 := he.fire (plv_m (p := p + 1) (by omega)) hs5
  have hw5 : WF n (mvd F i) m := hw.mvd hn hc
  have h66 : plvA (p + 1) ≠ 66 := by omega
  rw [hs5 72 3 (by omega), hpc.1, show nI goal = 3 ↔ goal = 3 from nI_eqL 3 (by omega) (by decide)]
  have go : (goal = 3 → servB nd (mvd F i) n = true) → CV g (d + 2 * r + 5) iX1_pass [rf g (plvA (p + 1))] I5 X (fun I7 X8 => vp_in (nI p) 4 ∧ ∀ I10 : IT, I10 = set2 I7 74 p (nI i) → CV g (d + 2 * r + 5) iX5_walk [rf g 72, .int (nI (p + 1))] I10 X8 (fun I11 X12 => KV I11 X12)) := by
    intro hsv
    refine c_X1_pass (plv_m (by omega)) h66 he5 hf5 hw5 (by omega) (fun I7 h7 hf7 => ⟨vp_in_nI (by omega) (by decide), fun I10 e10 => ?_⟩)
    have hs7 : SF (plvA (p + 1)) I I7 := hs5.trans h7
    have hs10 : ∀ b k, ¬ (b = 74 ∧ k = p) → ¬ (76 + 3 * (p + 1) ≤ b ∧ b ≤ 76 + 3 * (p + 1) + 2) → I10 b k = I b k := fun b k hb hb2 => by rw [e10, set2_at, if_neg hb, hs7 b k (by omega)]
    refine ih (passN n kd (mvd F i)) (mW mv p i) I10 KV (he.same (fun b k hb => hs10 b k (by omega) (by omega))) (hf7.same (fun b k hb => by rw [e10, set2_at, if_neg (by omega)])) (hw5.pass hn (by omega)) (hpc.same (fun k => ⟨hs10 72 k (by omega) (by omega), hs10 75 k (by omega) (by omega)⟩)) (fun k hk => ?_) (fun I2 h2 p2 => hK I2 (fun b k hb => ?_) ?_)
    · rw [mW_at]
      by_cases e : k = p
      · rw [if_pos e, e10, set2_at, if_pos ⟨rfl, e⟩]
      · rw [if_neg e, hs10 74 k (by omega) (by omega)]
        exact hmv k (by omega)
    · rw [h2 b k (by omega), hs10 b k (by omega) (by omega)]
    · unfold stepS
      rw [if_pos ⟨hc.imp id mvB_iff.mpr, hsv⟩]
      exact p2
  refine ⟨fun z => go (fun y => absurd y z), fun z => ?_⟩
  refine c_X1_servesHour (plv_m (by omega)) h66 he5 hf5 (by have := hw5.2.1; omega) (fun s => t_one' (go (fun _ => s))) (fun s => t_zero' ?_)
  refine hK I5 (fun b k hb => hs5 b k (by omega)) ?_
  unfold stepS
  rw [if_neg (fun y => by rw [y.2 z] at s; exact absurd s (by decide))]
  exact hpc.same (fun k => ⟨hs5 72 k (by omega), hs5 75 k (by omega)⟩)
theorem c_X5_walk (hg : goal ≤ 3) (hwn : wanted < 32) (hh4 : hours ≤ 4) : ∀ (r p m : Nat) (F mv : Nat → Nat) (R : PR) (I : IT) (KV : IT → XT → Prop), hours = p + r → m + r ≤ 90 → iE I n w kd nd wd → FR I (76 + 3 * p) n F → WF n F m → PC I goal wanted hours R → (∀ k, k < p → I 74 k = nI (mv k)) → (∀ I', SP p I I' → PC I' goal wanted hours (walkS n w goal wanted kd nd wd r p F mv R) → KV I' X) → CV g (d + 2 * r + 5) iX5_walk [rf g 72, .int (nI p)] I X KV := by
  intro r
  induction r with
  | zero =>
    intro p m F mv R I KV hp hm he hf hw hpc hmv hK
    refine en_X5_walk ⟨fun c => absurd c (nI_pos (by omega)), fun _ => ⟨fun _ => ⟨vp_in_nI (by omega) (by decide), ?_⟩, fun c => absurd (nI_le (b := 4) (by omega) (by decide)) c⟩⟩
    rw [hpc.2.2.1, nI_clamp (by omega)]
    refine ⟨fun c => absurd c (nI_nlt (by omega) (by omega)), fun _ => ?_⟩
    exact c_X5_weigh hg hwn hh4 hp (plv_m (by omega)) rfl he hf (by have := hw.2.1; omega) hpc hmv hK
  | succ r ih =>
    intro p m F mv R I KV hp hm he hf hw hpc hmv hK
    refine en_X5_walk ⟨fun c => absurd c (nI_pos (by omega)), fun _ => ⟨fun _ => ⟨vp_in_nI (by omega) (by decide), ?_⟩, fun c => absurd (nI_le (b := 4) (by omega) (by decide)) c⟩⟩
    rw [hpc.2.2.1, nI_clamp (by omega)]
    refine ⟨fun _ => ?_, fun c => absurd (nI_lt (by omega) (by omega)) c⟩
    have loop : ∀ (q i : Nat) (R' : PR) (I' : IT), i + q = 37 → SP p I I' → PC I' goal wanted hours R' → loopS (stepS n w goal wanted kd nd wd r p F mv) q i R' = walkS n w goal wanted kd nd wd (r + 1) p F mv R → SR g (d + 2 * (r + 1) + 5) iX5_walk 33 [(0, rf g 72), (1, .int (nI p)), (2, rf g (plvA p)), (3, .int (nI i))] I' X (qV KV) := by
      intro q
      induction q with
      | zero =>
        intro i R' I' hi hS hp' hl
        obtain rfl : i = 37 := by omega
        have hl' : R' = _ := hl
        exact rg_X5_walk_33 (plv_m (by omega)) ⟨fun _ => hK I' hS (hl' ▸ hp'), fun c => absurd (by decide) c⟩
      | succ q ihq =>
        intro i R' I' hi hS hp' hl
        have he' : iE I' n w kd nd wd := he.same (fun b k hb => hS b k (by omega))
        have hf' : FR I' (76 + 3 * p) n F := hf.same (fun b k hb => hS b k (by omega))
        have hmv' : ∀ k, k < p → I' 74 k = nI (mv k) := fun k hk => by rw [hS 74 k (by omega)]; exact hmv k hk
        have hl' : loopS (stepS n w goal wanted kd nd wd r p F mv) q (i + 1) (stepS n w goal wanted kd nd wd r p F mv i R') = walkS n w goal wanted kd nd wd (r + 1) p F mv R := hl
        refine rg_X5_walk_33 (plv_m (by omega)) ⟨fun c => absurd c (nI_nlt (a := 36) (b := i) (by omega) (by decide)), fun _ => ?_⟩
        refine c_X5_isOver hg hp' (fun o1 o2 => t_one' ?_) (fun o => t_zero' ?_)
        · have o3 := loop_over (f := stepS n w goal wanted kd nd wd r p F mv) (fun i R' h' => by
            unfold stepS
            split
            · exact walk_over o2 r (p + 1) _ _ R' h'
            · exact ⟨rfl, rfl⟩) (q + 1) i R' o1
          rw [hl] at o3
          exact hK I' hS (hp'.stay o2 o3.1 o3.2)
        · have tk : (i = 36 ∨ mvN n w kd wd F i) → CV g (d + 2 * r + 6) iX5_take [rf g 72, .int (nI p), .int (nI i)] I' X (fun I4 X5 => ∀ x6 : Int32, x6 = nI i + 1 → SR g (d + 2 * (r + 1) + 5) iX5_walk 33 [(0, rf g 72), (1, .int (nI p)), (2, rf g (plvA p)), (3, .int x6)] I4 X5 (qV KV)) := by
            intro hc
            refine c_X5_take (m := m) (mv := mv) (R := R') hg hp hh4 (by omega) he' hf' hw hm hp' hmv' hc (fun F2 mv2 I2 KV2 h1 h2 h3 h4 h5 h6 => ih (p + 1) (m + 1) F2 mv2 R' I2 KV2 (by omega) (by omega) h1 h2 h3 h4 h5 h6) (fun I4 h4 p4 x6 e6 => ?_)
            subst e6
            rw [nI_1]
            exact ihq (i + 1) _ I4 (by omega) (hS.trans h4) p4 hl'
          rw [show nI i = 36 ↔ i = 36 from nI_eqL 36 (by omega) (by decide)]
          refine ⟨fun e => tk (Or.inl e), fun e => ?_⟩
          refine c_X1_canMove (mv := i) (by omega) (plv_m (by omega)) (by unfold plvA; omega) he' hf' hw (by omega) (fun c => t_one (tk (Or.inr c))) (fun c => t_zero (fun x10 e10 => ?_))
          subst e10
          rw [nI_1]
          have hst : stepS n w goal wanted kd nd wd r p F mv i R' = R' := by
            unfold stepS
            rw [if_neg (fun z => z.1.elim e (fun y => c (mvB_iff.mp y)))]
          rw [hst] at hl'
          exact ihq (i + 1) R' I' (by omega) hS hp' hl'
    exact loop 37 0 R I rfl Same.rf hpc rfl
end T67

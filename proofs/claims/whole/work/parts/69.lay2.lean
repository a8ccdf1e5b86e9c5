/-! ===== plans: the model's, level by level ===== -/
section T69
variable {g : OG} {d : Nat} {I : IT} {X : XT} {K : Int32 → IT → XT → Prop} {KV : IT → XT → Prop}
variable {n w : Nat} {kd nd wd : Nat → Nat} {F : Nat → Nat} {m f a D : Nat} {dd : Nat → Nat} {S : Nat → Nat → Nat}
variable {goal wanted hours p aim : Nat} {R : PR} {mv : Nat → Nat}
theorem PMd.same {I' : IT} (h : PMd I aim wanted hours R) (hs : ∀ k, I' 129 k = I 129 k ∧ I' 150 k = I 150 k) : PMd I' aim wanted hours R := by
  obtain ⟨c1, c2, c3, c4, c5, c6, c7, c8⟩ := h
  refine ⟨by rw [(hs 36).1]; exact c1, by rw [(hs 34).1]; exact c2, by rw [(hs 35).1]; exact c3, by rw [(hs 33).1]; exact c4, c5, fun z => by rw [(hs 31).1]; exact c6 z, fun z => by rw [(hs 32).1]; exact c7 z, fun z k hk => by rw [(hs k).2]; exact c8 z k hk⟩
theorem c_X11_layPlans (hag : AG aim goal) (hwn : wanted < 32) (hh4 : hours ≤ 4) : ∀ (r p m : Nat) (F mv : Nat → Nat) (R : PR) (I : IT) (KV : IT → XT → Prop), hours = p + r → m + r ≤ 90 → iE I n w kd nd wd → FM I (1 + p) F → WF n F m → PMd I aim wanted hours R → (∀ k, k < p → I 149 k = nI (mv k)) → (∀ I', SQ p I I' → PMd I' aim wanted hours (walkS n w goal wanted kd nd wd r p F mv R) → KV I' X) → CV g (d + r + 4) iX11_layPlans [rf g 129, .int (nI aim), .int (nI p), .int (nI hours)] I X KV := by
  intro r
  induction r with
  | zero =>
    intro p m F mv R I KV hp hm he hf hw hpm hmv hK
    obtain rfl : hours = p := by omega
    refine en_X11_layPlans (fun x1 e1 => ⟨fun c => absurd rfl c, fun _ => ?_⟩)
    rw [show (1 : Int32) + nI hours = nI (1 + hours) from nI_add 1 hours] at e1
    subst e1
    exact c_X11_ends hag hwn hh4 (by omega) (by omega) he hf hw (by omega) hpm hmv hK
  | succ r ih =>
    intro p m F mv R I KV hp hm he hf hw hpm hmv hK
    have hn := he.1.2.2
    have ha4 : aim ≤ 4 := by unfold AG at hag; omega
    refine en_X11_layPlans (fun x1 e1 => ⟨fun _ => ?_, fun c => absurd ((nI_eq (by omega) (by omega)).mp c) (by omega)⟩)
    rw [show (1 : Int32) + nI p = nI (1 + p) from nI_add 1 p] at e1
    subst e1
    have loop : ∀ (q i : Nat) (R' : PR) (I' : IT), i + q = 37 → SQ p I I' → PMd I' aim wanted hours R' → loopS (stepS n w goal wanted kd nd wd r p F mv) q i R' = walkS n w goal wanted kd nd wd (r + 1) p F mv R → SR g (d + (r + 1) + 4) iX11_layPlans 22 [(0, rf g 129), (1, .int (nI aim)), (2, .int (nI p)), (3, .int (nI hours)), (4, .int (nI (1 + p))), (5, .int (nI i))] I' X (qV KV) := by
      intro q
      induction q with
      | zero =>
        intro i R' I' hi hS hp' hl
        obtain rfl : i = 37 := by omega
        have hl' : R' = _ := hl
        exact rg_X11_layPlans_22 ⟨fun _ => hK I' hS (hl' ▸ hp'), fun c => absurd (by decide) c⟩
      | succ q ihq =>
        intro i R' I' hi hS hp' hl
        have he' : iE I' n w kd nd wd := he.same (fun b k hb => hS b k (by omega))
        have hf' : FM I' (1 + p) F := fun k hk => by rw [hS 142 _ (by omega)]; exact hf k hk
        have hmv' : ∀ k, k < p → I' 149 k = nI (mv k) := fun k hk => by rw [hS 149 k (by omega)]; exact hmv k hk
        have hl' : loopS (stepS n w goal wanted kd nd wd r p F mv) q (i + 1) (stepS n w goal wanted kd nd wd r p F mv i R') = walkS n w goal wanted kd nd wd (r + 1) p F mv R := hl
        have g3 : aim = 4 ↔ goal = 3 := by unfold AG at hag; omega
        -- one more move
        have next : ∀ I2, SQ p I' I2 → PMd I2 aim wanted hours (stepS n w goal wanted kd nd wd r p F mv i R') → ∀ x4 : Int32, x4 = nI i + 1 → SR g (d + (r + 1) + 4) iX11_layPlans 22 [(0, rf g 129), (1, .int (nI aim)), (2, .int (nI p)), (3, .int (nI hours)), (4, .int (nI (1 + p))), (5, .int x4)] I2 X (qV KV) := by
          intro I2 h2 p2 x4 e4
          subst e4
          rw [nI_1]
          exact ihq (i + 1) _ I2 (by omega) (hS.trans h2) p2 hl'
        refine rg_X11_layPlans_22 ⟨fun c => absurd c (nI_nlt (a := 36) (b := i) (by omega) (by decide)), fun _ => ?_⟩
        rw [nI_1 (1 + p), nI_1 p, nI_clamp (n := p) (by omega), show nI aim = 4 ↔ aim = 4 from nI_eqL 4 (by omega) (by decide)]
        refine c_X11_canMove (f := 1 + p) (by omega) (by omega) he' hf' hw (by omega) (fun hc => t_one ?_) (fun hc => t_zero ?_)
        · refine c_X11_copyTo (s := 1 + p) (t := 1 + p + 1) (by omega) (by omega) (by omega) hf' (fun I5 h5 hf5 => ?_)
          -- behind the move
          have rest : ∀ I8, SMf (1 + p + 1) I' I8 → FM I8 (1 + p + 1) (mvd F i) →
              (¬ aim = 4 → CV g (d + r + 4) iX11_passes [rf g 129, .int (nI (1 + p + 1))] I8 X (fun I10 X11 => vp_in (nI p) 10 ∧ ∀ I13 : IT, I13 = set2 I10 149 p (nI i) → CV g (d + r + 4) iX11_layPlans [rf g 129, .int (nI aim), .int (nI (p + 1)), .int (nI hours)] I13 X11 (fun I14 X15 => ∀ x16 : Int32, x16 = nI i + 1 → SR g (d + (r + 1) + 4) iX11_layPlans 22 [(0, rf g 129), (1, .int (nI aim)), (2, .int (nI p)), (3, .int (nI hours)), (4, .int (nI (1 + p))), (5, .int x16)] I14 X15 (qV KV)))) ∧
              (aim = 4 → CI g (d + r + 4) iX11_isServed [rf g 129, .int (nI (1 + p + 1))] I8 X (fun r17 I18 X19 => (r17 = 0 → ∀ x20 : Int32, x20 = nI i + 1 → SR g (d + (r + 1) + 4) iX11_layPlans 22 [(0, rf g 129), (1, .int (nI aim)), (2, .int (nI p)), (3, .int (nI hours)), (4, .int (nI (1 + p))), (5, .int x20)] I18 X19 (qV KV)) ∧ (¬ r17 = 0 → CV g (d + r + 4) iX11_passes [rf g 129, .int (nI (1 + p + 1))] I18 X19 (fun I21 X22 => vp_in (nI p) 10 ∧ ∀ I24 : IT, I24 = set2 I21 149 p (nI i) → CV g (d + r + 4) iX11_layPlans [rf g 129, .int (nI aim), .int (nI (p + 1)), .int (nI hours)] I24 X22 (fun I25 X26 => ∀ x27 : Int32, x27 = nI i + 1 → SR g (d + (r + 1) + 4) iX11_layPlans 22 [(0, rf g 129), (1, .int (nI aim)), (2, .int (nI p)), (3, .int (nI hours)), (4, .int (nI (1 + p))), (5, .int x27)] I25 X26 (qV KV)))))) := by
            intro I8 h8 hf8
            have he8 := he'.frame h8
            have hw8 : WF n (mvd F i) m := hw.mvd hn hc
            have go : (goal = 3 → servB nd (mvd F i) n = true) → CV g (d + r + 4) iX11_passes [rf g 129, .int (nI (1 + p + 1))] I8 X (fun I10 X11 => vp_in (nI p) 10 ∧ ∀ I13 : IT, I13 = set2 I10 149 p (nI i) → CV g (d + r + 4) iX11_layPlans [rf g 129, .int (nI aim), .int (nI (p + 1)), .int (nI hours)] I13 X11 (fun I14 X15 => ∀ x16 : Int32, x16 = nI i + 1 → SR g (d + (r + 1) + 4) iX11_layPlans 22 [(0, rf g 129), (1, .int (nI aim)), (2, .int (nI p)), (3, .int (nI hours)), (4, .int (nI (1 + p))), (5, .int x16)] I14 X15 (qV KV))) := by
              intro hsv
              refine c_X11_passes (f := 1 + p + 1) (by omega) he8 hf8 hw8 (by omega) (fun I10 h10 hf10 => ⟨vp_in_nI (by omega) (by decide), fun I13 e13 => ?_⟩)
              have hs10 : SMf (1 + p + 1) I' I10 := h8.trans h10
              have hs13 : ∀ b k, ¬ (b = 149 ∧ k = p) → ¬ (b = 142 ∧ 18 * (p + 2) ≤ k ∧ k < 18 * (p + 2) + 18) → I13 b k = I' b k := fun b k hb hb2 => by rw [e13, set2_at, if_neg hb, hs10 b k (by omega)]
              refine ih (p + 1) (m + 1) (passN n kd (mvd F i)) (mW mv p i) R' I13 _ (by omega) (by omega) (he'.same (fun b k hb => hs13 b k (by omega) (by omega))) (fun k hk => ?_) (hw8.pass hn (by omega)) (hp'.same (fun k => ⟨hs13 129 k (by omega) (by omega), hs13 150 k (by omega) (by omega)⟩)) (fun k hk => ?_) (fun I2 h2 p2 => next I2 (fun b k hb => ?_) ?_)
              · rw [e13, set2_at, if_neg (by omega)]
                exact hf10 k hk
              · rw [mW_at]
                by_cases e : k = p
                · rw [if_pos e, e13, set2_at, if_pos ⟨rfl, e⟩]
                · rw [if_neg e, hs13 149 k (by omega) (by omega)]
                  exact hmv' k (by omega)
              · rw [h2 b k (by omega), hs13 b k (by omega) (by omega)]
              · unfold stepS
                rw [if_pos ⟨hc.imp id mvB_iff.mpr, hsv⟩]
                exact p2
            refine ⟨fun z => go (fun y => absurd (g3.mpr y) z), fun z => ?_⟩
            refine c_X11_isServed (f := 1 + p + 1) (by omega) he8 hf8 hw8 (by omega) (fun s => t_one (go (fun _ => s))) (fun s => t_zero (next I8 (fun b k hb => h8 b k (by omega)) ?_))
            unfold stepS
            rw [if_neg (fun y => by rw [y.2 (g3.mp z)] at s; exact absurd s (by decide))]
            exact hp'.same (fun k => ⟨h8 129 k (by omega), h8 150 k (by omega)⟩)
          refine c_X11_isNone (by omega) (fun e => t_one' ?_) (fun e => t_zero' ?_)
          · refine rest I5 h5 ?_
            unfold mvd
            rw [if_pos e]
            exact hf5
          · have c3 := hc.resolve_left (by omega)
            rw [i_rem6 (by omega)]
            refine c_X11_carries (f := 1 + p + 1) (by omega) (by have := c3.2.2.2.1.1; omega) hf5 (fun I28 h28 hf28 => rest I28 (h5.trans h28) ?_)
            unfold mvd
            rw [if_neg (by omega)]
            exact hf28
        · have hst : stepS n w goal wanted kd nd wd r p F mv i R' = R' := by
            unfold stepS
            rw [if_neg (fun z => hc (z.1.imp id mvB_iff.mp))]
          exact fun x4 e4 => next I' Same.rf (by rw [hst]; exact hp') x4 e4
    exact loop 37 0 R I rfl Same.rf hpm rfl
end T69

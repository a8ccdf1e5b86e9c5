/-! ===== smoke: the model's count ===== -/
section T75
variable {g : OG} {d : Nat} {I : IT} {X : XT} {K : Int32 → IT → XT → Prop} {KV : IT → XT → Prop}
variable {n w : Nat} {kd nd wd bk : Nat → Nat} {F : Nat → Nat} {m f a D j z p : Nat}
def SL (p : Nat) (I I' : IT) : Prop := Same (fun b k => b = 142 ∧ 18 * (p + 2) ≤ k) I I'
theorem c_X11_smokes (hj : j < 6) (hz5 : z ≤ 5) : ∀ (r p m : Nat) (F : Nat → Nat) (I : IT) (K : Int32 → IT → XT → Prop), z = p + r → m + r ≤ 90 → I 131 j = nI z → (∀ k, k < z → I 132 (40 * j + k) = nI (bk k) ∧ bk k < 32) → iE I n w kd nd wd → FM I (1 + p) F → WF n F m → (∀ I', SL p I I' → K (nI (smkN n w kd wd bk r p F)) I' X) → CI g (d + r + 4) iX11_smokes [rf g 129, .int (nI j), .int (nI p)] I X K := by
  intro r
  induction r with
  | zero =>
    intro p m F I K hp hm hrz hbk he hf hw hK
    refine en_X11_smokes ?_
    rw [nI_clamp (n := j) (by omega), hrz, nI_eq (by omega) (by omega)]
    exact ⟨vp_in_nI hj (by decide), fun c => by omega, fun _ => hK I Same.rf⟩
  | succ r ih =>
    intro p m F I K hp hm hrz hbk he hf hw hK
    have hn := he.1.2.2
    refine en_X11_smokes ?_
    rw [nI_clamp (n := j) (by omega), hrz, nI_eq (by omega) (by omega)]
    refine ⟨vp_in_nI hj (by decide), fun _ x2 e2 => ?_, fun c => by omega⟩
    rw [show (1 : Int32) + nI p = nI (1 + p) from nI_add 1 p] at e2
    subst e2
    have loop : ∀ (q i s : Nat) (I' : IT), i + q = 37 → SL p I I' → s + sumS (stM n w kd wd bk r p F) q i = smkN n w kd wd bk (r + 1) p F → SR g (d + (r + 1) + 4) iX11_smokes 22 [(0, rf g 129), (1, .int (nI j)), (2, .int (nI p)), (3, .int (nI (1 + p))), (4, .int (nI s)), (5, .int (nI i))] I' X (qI K) := by
      intro q
      induction q with
      | zero =>
        intro i s I' hi hS hl
        obtain rfl : i = 37 := by omega
        have hl' : s = _ := hl
        exact rg_X11_smokes_22 ⟨fun _ => hl' ▸ hK I' hS, fun c => absurd (by decide) c⟩
      | succ q ihq =>
        intro i s I' hi hS hl
        have he' : iE I' n w kd nd wd := he.same (fun b k hb => hS b k (by omega))
        have hf' : FM I' (1 + p) F := fun k hk => by rw [hS 142 _ (by omega)]; exact hf k hk
        have hl' : s + (stM n w kd wd bk r p F i + sumS (stM n w kd wd bk r p F) q (i + 1)) = smkN n w kd wd bk (r + 1) p F := hl
        have next : ∀ I2, SL p I' I2 → SR g (d + (r + 1) + 4) iX11_smokes 22 [(0, rf g 129), (1, .int (nI j)), (2, .int (nI p)), (3, .int (nI (1 + p))), (4, .int (nI (s + stM n w kd wd bk r p F i))), (5, .int (nI i + 1))] I2 X (qI K) := by
          intro I2 h2
          rw [nI_1]
          exact ihq (i + 1) _ I2 (by omega) (hS.trans h2) (by omega)
        refine rg_X11_smokes_22 ⟨fun c => absurd c (nI_nlt (a := 36) (b := i) (by omega) (by decide)), fun _ => ?_⟩
        rw [nI_1 (1 + p), nI_1 p]
        refine c_X11_canMove (f := 1 + p) (by omega) (by omega) he' hf' hw (by omega) (fun hc => t_one ?_) (fun hc => t_zero (fun x4 e4 => ?_))
        · refine c_X11_copyTo (s := 1 + p) (t := 1 + p + 1) (by omega) (by omega) (by omega) hf' (fun I5 h5 hf5 => ?_)
          have rest : ∀ I8, SMf (1 + p + 1) I' I8 → FM I8 (1 + p + 1) (mvd F i) →
              CV g (d + r + 4) iX11_passes [rf g 129, .int (nI (1 + p + 1))] I8 X (fun I10 X11 => CI g (d + r + 4) iX11_burning [rf g 129, .int (nI (1 + p + 1))] I10 X11 (fun r12 I13 X14 => CI g (d + r + 4) iX11_rowAt [rf g 129, .int (nI j), .int (nI p)] I13 X14 (fun r15 I16 X17 => (¬ r12 = r15 → ∀ x18 : Int32, x18 = nI s + 0 → ∀ x19 : Int32, x19 = nI i + 1 → SR g (d + (r + 1) + 4) iX11_smokes 22 [(0, rf g 129), (1, .int (nI j)), (2, .int (nI p)), (3, .int (nI (1 + p))), (4, .int x18), (5, .int x19)] I16 X17 (qI K)) ∧ (r12 = r15 → CI g (d + r + 4) iX11_smokes [rf g 129, .int (nI j), .int (nI (p + 1))] I16 X17 (fun r20 I21 X22 => ∀ x23 : Int32, x23 = nI s + r20 → ∀ x24 : Int32, x24 = nI i + 1 → SR g (d + (r + 1) + 4) iX11_smokes 22 [(0, rf g 129), (1, .int (nI j)), (2, .int (nI p)), (3, .int (nI (1 + p))), (4, .int x23), (5, .int x24)] I21 X22 (qI K)))))) := by
            intro I8 h8 hf8
            have he8 := he'.frame h8
            have hw8 : WF n (mvd F i) m := hw.mvd hn hc
            refine c_X11_passes (f := 1 + p + 1) (by omega) he8 hf8 hw8 (by omega) (fun I10 h10 hf10 => ?_)
            have hs10 : SMf (1 + p + 1) I' I10 := h8.trans h10
            have hw10 := hw8.pass (kd := kd) hn (by omega)
            have hb7 := bset_lt (passN n kd (mvd F i)) n
            have h32 : (2 : Nat) ^ n ≤ 2 ^ 5 := Nat.pow_le_pow_right (by decide) hn
            obtain ⟨k1, k2⟩ := hbk p (by omega)
            refine c_X11_burning (f := 1 + p + 1) (by omega) (he'.frame hs10) hf10 hw10 (c_X11_rowAt hj (by omega) ?_)
            rw [hs10 132 _ (by omega), hS 132 _ (by omega), k1, nI_eq (by omega) (by omega)]
            refine ⟨fun c x18 e18 x19 e19 => ?_, fun c => ?_⟩
            · subst e18; subst e19
              rw [p0]
              have hst : stM n w kd wd bk r p F i = 0 := by
                unfold stM
                rw [if_neg (fun y => c y.2)]
              have := next I10 (fun b k hb => hs10 b k (by omega))
              rw [hst, Nat.add_zero] at this
              exact this
            · refine ih (p + 1) (m + 1) (passN n kd (mvd F i)) I10 _ (by omega) (by omega) (by rw [hs10 131 j (by omega), hS 131 j (by omega)]; exact hrz) (fun k hk => by rw [hs10 132 _ (by omega), hS 132 _ (by omega)]; exact hbk k hk) (he'.frame hs10) hf10 hw10 (fun I2 h2 x23 e23 x24 e24 => ?_)
              rw [nI_add] at e23
              subst e23; subst e24
              have hst : stM n w kd wd bk r p F i = smkN n w kd wd bk r (p + 1) (passN n kd (mvd F i)) := by
                unfold stM
                rw [if_pos ⟨hc.imp id mvB_iff.mpr, c⟩]
              have := next I2 (fun b k hb => by rw [h2 b k (by omega), hs10 b k (by omega)])
              rw [hst] at this
              exact this
          refine c_X11_isNone (by omega) (fun e => t_one' ?_) (fun e => t_zero' ?_)
          · refine rest I5 h5 ?_
            unfold mvd
            rw [if_pos e]
            exact hf5
          · have c3 := hc.resolve_left (by omega)
            rw [i_rem6 (by omega)]
            refine c_X11_carries (f := 1 + p + 1) (by omega) (by have := c3.2.2.2.1.1; omega) hf5 (fun I28 h28 hf28 => rest I28 (h5.trans h28) ?_)
            unfold mvd
            rw [if_neg (by omega)]
            exact hf28
        · have hst : stM n w kd wd bk r p F i = 0 := by
            unfold stM
            rw [if_neg (fun y => hc (y.1.imp id mvB_iff.mp))]
          have := next I' Same.rf
          rw [hst, Nat.add_zero] at this
          subst e4
          exact this
    exact loop 37 0 0 I rfl Same.rf (Nat.zero_add _)
end T75

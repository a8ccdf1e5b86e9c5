/-! ===== smoke: the model's loop over the houses ===== -/
section T78
variable {g : OG} {d : Nat} {I : IT} {X : XT} {K : Int32 → IT → XT → Prop} {KV : IT → XT → Prop}
variable {n w : Nat} {kd nd wd bk : Nat → Nat} {F : Nat → Nat} {m f a D j z p : Nat}
theorem lp_X11_smoke (hj : j < 6) (hz5 : z ≤ 5) (I0 : IT) (hrz : I0 131 j = nI z) (hbk : ∀ k, k < z → I0 132 (40 * j + k) = nI (bk k) ∧ bk k < 32) (he0 : iE I0 n w kd nd wd) (hf0 : ∀ k, k < 18 → I0 141 k = nI (F k)) (hw : WF n F m) (hm : m ≤ 80)
    (hK : ∀ I', Same (fun b k => b = 142 ∧ 18 ≤ k) I0 I' → CI g (d + 9) iX11_fraction [rf g 129, .long (nI (smC n w kd wd bk z F n)).toInt64, .long 1] I' X (fun r1 I2 X3 => CI g (d + 9) iX11_tells [rf g 129, .int (nI (smO n w kd wd bk z F n)), .int 1] I2 X3 (fun r4 I5 X6 => K r4 I5 X6))) : ∀ (q i : Nat) (I : IT), i + q = n → Same (fun b k => b = 142 ∧ 18 ≤ k) I0 I → SR g (d + 10) iX11_smoke 21 [(0, rf g 129), (1, .int (nI j)), (3, .int (nI (smC n w kd wd bk z F i))), (4, .int (nI (smO n w kd wd bk z F i))), (5, .int (nI i))] I X (qI K) := by
  have hn := he0.1.2.2
  intro q
  induction q with
  | zero =>
    intro i I hi hs
    obtain rfl : i = n := by omega
    have he : iE I i w kd nd wd := he0.same (fun b k hb => hs b k (by omega))
    refine rg_X11_smoke_21 ?_
    rw [he.1.2.1]
    exact ⟨fun _ => hK I hs, fun c => absurd (Int32.le_refl _) c⟩
  | succ q ih =>
    intro i I hi hs
    have he : iE I n w kd nd wd := he0.same (fun b k hb => hs b k (by omega))
    have b2 := smH_le (n := n) (w := w) (kd := kd) (wd := wd) (bk := bk) (F := F) hz5 i
    refine rg_X11_smoke_21 ?_
    rw [he.1.2.1]
    refine ⟨fun c => absurd c (nI_ge (by omega) (by omega)), fun _ => c_X11_layFirst (t := 1) (by decide) (F := F) (fun k hk => by rw [hs 141 k (by omega)]; exact hf0 k hk) (fun I7 h7 hf7 => ?_)⟩
    have hs7 : Same (fun b k => b = 142 ∧ 18 ≤ k) I0 I7 := hs.trans (h7.weak (fun b k hb => by omega))
    refine c_X11_isCatching (f := 1) (by decide) (by omega) (he.frame h7) hf7 hw (fun c => t_one ?_) (fun c => t_zero (fun x12 e12 => ?_))
    · rw [show (28 : Int32) + nI i = nI (18 * 1 + (10 + i)) by rw [show (28 : Int32) = nI 28 from rfl, nI_add]; congr 1; omega, nI_clamp (by omega)]
      refine ⟨vp_in_nI (by omega) (by decide), fun I14 e14 => ?_⟩
      have hF3 : FM I14 1 (mW F (10 + i) 1) := by rw [e14]; exact FM.set1 (by omega) hf7
      have hs14 : Same (fun b k => b = 142 ∧ 18 ≤ k) I0 I14 := by rw [e14]; exact hs7.step (by omega)
      rw [show d + 9 = (d + (5 - z)) + z + 4 by omega]
      refine c_X11_smokes (bk := bk) hj hz5 z 0 m (mW F (10 + i) 1) I14 _ (by omega) (by omega) (by rw [hs14 131 j (by omega)]; exact hrz) (fun k hk => by rw [hs14 132 _ (by omega)]; exact hbk k hk) (he0.same (fun b k hb => hs14 b k (by omega))) hF3 (hw.burn hn (by omega) c.1) (fun I16 h16 x18 e18 => ?_)
      have hs16 : Same (fun b k => b = 142 ∧ 18 ≤ k) I0 I16 := hs14.trans (h16.weak (fun b k hb => by omega))
      have hH : smkN n w kd wd bk z 0 (mW F (10 + i) 1) = smH n w kd wd bk z F i := by unfold smH; rw [if_pos (catchB_1 c)]
      rw [hH, nI_add] at e18
      subst e18
      rw [hH, nle0 (by omega), show d + (5 - z) + z + 4 + 1 = d + 10 by omega]
      have ih' := ih (i + 1) I16 (by omega) hs16
      refine ⟨fun y x19 e19 x20 e20 => ?_, fun y x19 e19 x20 e20 => ?_⟩
      · rw [show (0 : Int32) = nI 0 from rfl, i_or] at e19
        subst e19; subst e20
        unfold smO at ih'
        rw [if_pos y] at ih'
        rw [nI_1]
        exact ih'
      · rw [sh_one _ (by omega), i_or] at e19
        subst e19; subst e20
        unfold smO at ih'
        rw [if_neg y] at ih'
        rw [nI_1]
        exact ih'
    · subst e12
      have c0 : smH n w kd wd bk z F i = 0 := smH_0 c
      have ih' := ih (i + 1) I7 (by omega) hs7
      unfold smO smC at ih'
      rw [c0, if_pos rfl, Nat.add_zero, Nat.or_zero] at ih'
      rw [nI_1]
      exact ih'
end T78

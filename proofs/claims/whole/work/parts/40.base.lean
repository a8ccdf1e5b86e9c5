/-! ===== what every proof behind takes ===== -/
theorem t_one {A B : Prop} (h : B) : ((1 : Int32) = 0 → A) ∧ (¬ (1 : Int32) = 0 → B) := ⟨fun c => absurd c (by decide), fun _ => h⟩
theorem t_zero {A B : Prop} (h : A) : ((0 : Int32) = 0 → A) ∧ (¬ (0 : Int32) = 0 → B) := ⟨fun _ => h, fun c => absurd rfl c⟩
theorem t_one' {A B : Prop} (h : A) : (¬ (1 : Int32) = 0 → A) ∧ ((1 : Int32) = 0 → B) := ⟨fun _ => h, fun c => absurd c (by decide)⟩
theorem t_zero' {A B : Prop} (h : B) : (¬ (0 : Int32) = 0 → A) ∧ ((0 : Int32) = 0 → B) := ⟨fun c => absurd rfl c, fun _ => h⟩
theorem b_one {A : Prop} (h : A) : ((1 : Int32) = 0 ∨ (1 : Int32) = 1) ∧ A := ⟨Or.inr rfl, h⟩
theorem b_zero {A : Prop} (h : A) : ((0 : Int32) = 0 ∨ (0 : Int32) = 1) ∧ A := ⟨Or.inl rfl, h⟩
theorem i_lt (a b : Int32) : a < b ↔ a.toInt < b.toInt := Int32.lt_iff_toInt_lt
theorem i_le (a b : Int32) : a ≤ b ↔ a.toInt ≤ b.toInt := Int32.le_iff_toInt_le
theorem i_eq (a b : Int32) : a = b ↔ a.toInt = b.toInt := Int32.toInt_inj.symm
section T40
variable {g : OG} {d : Nat} {I : IT} {X : XT} {K : Int32 → IT → XT → Prop} {KV : IT → XT → Prop}
theorem c_X10_isRow {r : Int32} (hT : vp_in r 6 → K 1 I X) (hF : ¬ vp_in r 6 → K 0 I X) : CI g (d + 1) iX10_isRow [.int r] I X K := by
  refine en_X10_isRow ⟨fun c => hF ?_, fun c => ⟨fun c2 => hF ?_, fun c2 => hT ?_⟩⟩ <;> simp only [vp_in_iff, i_lt, i_le, Int32.reduceToInt] at * <;> omega
theorem c_X11_in {v lo hi : Int32} (hT : lo ≤ v ∧ v ≤ hi → K 1 I X) (hF : ¬ (lo ≤ v ∧ v ≤ hi) → K 0 I X) : CI g (d + 1) iX11_in [.int v, .int lo, .int hi] I X K := by
  refine en_X11_in ⟨fun c => hF ?_, fun c => ⟨fun c2 => hF ?_, fun c2 => hT ?_⟩⟩ <;> simp only [i_lt, i_le, Int32.reduceToInt] at * <;> omega
theorem c_X11_isRow {r : Int32} (hT : vp_in r 6 → K 1 I X) (hF : ¬ vp_in r 6 → K 0 I X) : CI g (d + 2) iX11_isRow [.int r] I X K := by
  refine en_X11_isRow (c_X11_in (fun c => b_one (hT ?_)) (fun c => b_zero (hF ?_))) <;> simp only [vp_in_iff, i_lt, i_le, Int32.reduceToInt] at * <;> omega
end T40

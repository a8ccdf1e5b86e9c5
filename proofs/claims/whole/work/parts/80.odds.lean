/-! ===== odds: how many of all cases ===== -/
def odN (n w : Nat) (kd wd mm : Nat → Nat) (hs lo : Nat) : Nat → Nat → (Nat → Nat) → Nat
  | 0, _, F => if F (10 + hs) = 1 then 1 else 0
  | r + 1, p, F => if mvB n w kd wd F (mm p) = true then lo * odN n w kd wd mm hs lo r (p + 1) (passN n kd (mvd F 36)) + (12 - lo) * odN n w kd wd mm hs lo r (p + 1) (passN n kd (mvd F (mm p))) else 12 * odN n w kd wd mm hs lo r (p + 1) (passN n kd (mvd F 36))
theorem set2L_self (L : Nat → Nat → Int64) (a j : Nat) (v : Int64) : set2L L a j v a j = v := by rw [set2L_at, if_pos ⟨rfl, rfl⟩]
theorem set2L_off (L : Nat → Nat → Int64) {a j b k : Nat} (v : Int64) (h : ¬ (b = a ∧ k = j)) : set2L L a j v b k = L b k := by rw [set2L_at, if_neg h]
section T80
variable {g : OG} {d : Nat} {I : IT} {X : XT} {K : Int32 → IT → XT → Prop} {KV : IT → XT → Prop} {KL : Int64 → IT → XT → Prop}
variable {n w : Nat} {kd nd wd mm : Nat → Nat} {F : Nat → Nat} {m f a D j z p hs lo : Nat}
theorem od_le (hl : lo ≤ 12) : ∀ (r p : Nat) (F : Nat → Nat), odN n w kd wd mm hs lo r p F ≤ 12 ^ r
  | 0, _, F => by
    show (if F (10 + hs) = 1 then 1 else 0) ≤ 1
    split <;> decide
  | r + 1, p, F => by
    have h1 := od_le hl r (p + 1) (passN n kd (mvd F 36))
    have h2 := od_le hl r (p + 1) (passN n kd (mvd F (mm p)))
    show (if mvB n w kd wd F (mm p) = true then _ else _) ≤ _
    rw [Nat.pow_succ, Nat.mul_comm (12 ^ r) 12]
    split
    · refine Nat.le_trans (Nat.add_le_add (Nat.mul_le_mul_left lo h1) (Nat.mul_le_mul_left (12 - lo) h2)) ?_
      rw [← Nat.add_mul, show lo + (12 - lo) = 12 by omega]
      exact Nat.le_refl _
    · exact Nat.mul_le_mul_left 12 h1
def SO (p : Nat) (I I' : IT) : Prop := Same (fun b _ => 113 + 3 * (p + 1) ≤ b ∧ b ≤ 127) I I'
theorem olv_m {p : Nat} (h : p < 5) : olvA p ∈ fireL := (olv_el_all p h).2.1
theorem i12sub (h : lo ≤ 12) : ((12 : Int32) - nI lo).toInt64 = lN (12 - lo) := by
  rw [show (12 : Int32) = nI 12 from rfl, pk_sub h, nI_l (by omega)]
-- what the class must find in its places
def OD (j z hs lo : Nat) (mm : Nat → Nat) (I : IT) : Prop := I (rowA j) 1 = nI z ∧ (∀ k, k < z → I (rowA j + 1) k = nI (mm k) ∧ mm k ≤ 36) ∧ I 111 2 = nI hs ∧ I 111 3 = nI lo
theorem OD.same {I' : IT} (h : OD j z hs lo mm I) (hj : j < 6) (hS : ∀ b k, b < 112 → I' b k = I b k) : OD j z hs lo mm I' := by
  have hra : rowA j + 1 < 16 := by unfold rowA; omega
  refine ⟨by rw [hS _ _ (by omega)]; exact h.1, fun k hk => by rw [hS _ _ (by omega)]; exact h.2.1 k hk, by rw [hS _ _ (by omega)]; exact h.2.2.1, by rw [hS _ _ (by omega)]; exact h.2.2.2⟩
theorem c_X4_behind {r i : Nat} (hj : j < 6) (hz4 : z ≤ 4) (hod : OD j z hs lo mm I) (hp : z = p + (r + 1)) (he : iE I n w kd nd wd) (hf : FR I (113 + 3 * p) n F) (hw : WF n F m) (hm : m + (r + 1) ≤ 90) (hc : i = 36 ∨ mvN n w kd wd F i)
    (ih : ∀ (F' : Nat → Nat) (I' : IT) (KV' : Int64 → IT → XT → Prop), OD j z hs lo mm I' → iE I' n w kd nd wd → FR I' (113 + 3 * (p + 1)) n F' → WF n F' (m + 1) → (∀ I2, SO (p + 1) I' I2 → KV' (lN (odN n w kd wd mm hs lo r (p + 1) F')) I2 X) → CL g (d + 2 * r + 5) iX4_casesFrom [rf g 111, .int (nI (p + 1))] I' X KV')
    (hK : ∀ I', SO p I I' → KL (lN (odN n w kd wd mm hs lo r (p + 1) (passN n kd (mvd F i)))) I' X) : CL g (d + 2 * r + 6) iX4_casesBehind [rf g 111, .int (nI p), .int (nI i)] I X KL := by
  have hn := he.1.2.2
  refine en_X4_casesBehind ⟨fun c => absurd c (nI_pos (by omega)), fun _ => ⟨fun _ => ?_, fun c => absurd (nI_lt (b := 4) (by omega) (by decide)) c⟩⟩
  rw [nI_1, nI_clamp (n := p) (by omega), nI_clamp (n := p + 1) (by omega)]
  refine ⟨vp_in_nI (by omega) (by decide), vp_in_nI (by omega) (by decide), ?_⟩
  refine c_X1_become (olv_m (by omega)) (olv_m (by omega)) (by unfold olvA; omega) hn hf hw.2.2.1 hw.2.2.2.1 (fun I3 h3 hf3 => ?_)
  refine c_bring (w := w) (kd := kd) (wd := wd) hn (olv_m (by omega)) hf3 hc (fun I5 h5 hf5 => ?_)
  have hs5 : SF (olvA (p + 1)) I I5 := h3.trans h5
  have hpl : olvA (p + 1) = 113 + 3 * (p + 1) := rfl
  have he5 := he.fire (olv_m (p := p + 1) (by omega)) hs5
  have hw5 : WF n (mvd F i) m := hw.mvd hn hc
  refine c_X1_pass (olv_m (by omega)) (by omega) he5 hf5 hw5 (by omega) (fun I7 h7 hf7 => ?_)
  have hs7 : SF (olvA (p + 1)) I I7 := hs5.trans h7
  refine ih (passN n kd (mvd F i)) I7 _ (hod.same hj (fun b k hb => hs7 b k (by omega))) (he.fire (olv_m (p := p + 1) (by omega)) hs7) hf7 (hw5.pass hn (by omega)) (fun I2 h2 => hK I2 (fun b k hb => ?_))
  rw [h2 b k (by omega), hs7 b k (by omega)]
theorem c_X4_cases (hj : j < 6) (hX : X.2.2 = rowA j) (hz4 : z ≤ 4) (hhs : hs < n) (hlo : lo ≤ 12) : ∀ (r p m : Nat) (F : Nat → Nat) (I : IT) (KL : Int64 → IT → XT → Prop), z = p + r → m + r ≤ 90 → OD j z hs lo mm I → iE I n w kd nd wd → FR I (113 + 3 * p) n F → WF n F m → (∀ I', SO p I I' → KL (lN (odN n w kd wd mm hs lo r p F)) I' X) → CL g (d + 2 * r + 5) iX4_casesFrom [rf g 111, .int (nI p)] I X KL := by
  have hmem : X.2.2 ∈ rowL := by rw [hX]; exact rowA_mem hj
  intro r
  induction r with
  | zero =>
    intro p m F I KL hp hm hod he hf hw hK
    have hn := he.1.2.2
    refine en_X4_casesFrom ⟨hmem, fun c => absurd c (nI_pos (by omega)), fun _ => ⟨fun _ => ⟨hmem, ?_⟩, fun c => absurd (nI_le (b := 4) (by omega) (by decide)) c⟩⟩
    rw [hX, hod.1, hod.2.2.1, nI_clamp (n := p) (by omega)]
    refine ⟨fun c => absurd c (nI_nlt (by omega) (by omega)), fun _ => ⟨vp_in_nI (by omega) (by decide), ?_⟩⟩
    have hK' := hK I Same.rf
    rw [show odN n w kd wd mm hs lo 0 p F = if F (10 + hs) = 1 then 1 else 0 from rfl] at hK'
    refine c_X1_burns (by omega) (olv_m (by omega)) (by unfold olvA; omega) he hf (fun c => t_one ?_) (fun c => t_zero ?_)
    · rw [if_pos c.2] at hK'; exact hK'
    · rw [if_neg (fun y => c ⟨hhs, y⟩)] at hK'; exact hK'
  | succ r ih =>
    intro p m F I KL hp hm hod he hf hw hK
    have hn := he.1.2.2
    obtain ⟨hv1, hv2⟩ := hod.2.1 p (by omega)
    have ih' : ∀ (F' : Nat → Nat) (I' : IT) (KV' : Int64 → IT → XT → Prop), OD j z hs lo mm I' → iE I' n w kd nd wd → FR I' (113 + 3 * (p + 1)) n F' → WF n F' (m + 1) → (∀ I2, SO (p + 1) I' I2 → KV' (lN (odN n w kd wd mm hs lo r (p + 1) F')) I2 X) → CL g (d + 2 * r + 5) iX4_casesFrom [rf g 111, .int (nI (p + 1))] I' X KV' := fun F2 I2 KV2 a1 a2 a3 a4 a5 => ih (p + 1) (m + 1) F2 I2 KV2 (by omega) (by omega) a1 a2 a3 a4 a5
    refine en_X4_casesFrom ⟨hmem, fun c => absurd c (nI_pos (by omega)), fun _ => ⟨fun _ => ⟨hmem, ?_⟩, fun c => absurd (nI_le (b := 4) (by omega) (by decide)) c⟩⟩
    rw [hX, hod.1, hod.2.2.1]
    refine ⟨fun _ => ⟨hX ▸ hmem, ?_⟩, fun c => absurd (nI_lt (by omega) (by omega)) c⟩
    refine c_X7_get (rowA_mem hj) hod.1 (by omega) (vp_in_nI (by omega) (by omega)) ?_
    rw [nI_clamp (n := p) (by omega), hv1]
    refine ⟨vp_in_nI (by omega) (by decide), ?_⟩
    have hod2 : ∀ I', SO p I I' → OD j z hs lo mm I' := fun I' h' => hod.same hj (fun b k hb => h' b k (by omega))
    refine c_X1_canMove (mv := mm p) hv2 (olv_m (by omega)) (by unfold olvA; omega) he hf hw (by omega) (fun c => t_one' ?_) (fun c => t_zero' ?_)
    · refine c_X4_behind (i := 36) (m := m) (F := F) hj hz4 hod hp he hf hw hm (Or.inl rfl) ih' (fun I12 h12 => ?_)
      refine c_X4_behind (i := mm p) (m := m) (F := F) hj hz4 (hod2 I12 h12) hp (he.same (fun b k hb => h12 b k (by omega))) (hf.same (fun b k hb => h12 b k (by omega))) hw hm (Or.inr c) ih' (fun I15 h15 => ?_)
      rw [hod.2.2.2, (hod2 I12 h12).2.2.2, i12sub hlo, nI_l (by omega), lN_mul, lN_mul, lN_add]
      have := hK I15 (fun b k hb => by rw [h15 b k hb, h12 b k hb])
      rw [show odN n w kd wd mm hs lo (r + 1) p F = if mvB n w kd wd F (mm p) = true then _ else _ from rfl, if_pos (mvB_iff.mpr c)] at this
      exact this
    · refine c_X4_behind (i := 36) (m := m) (F := F) hj hz4 hod hp he hf hw hm (Or.inl rfl) ih' (fun I12 h12 => ?_)
      rw [show (12 : Int64) = lN 12 from rfl, lN_mul]
      have := hK I12 h12
      rw [show odN n w kd wd mm hs lo (r + 1) p F = if mvB n w kd wd F (mm p) = true then _ else _ from rfl, if_neg (fun y => c (mvB_iff.mp y))] at this
      exact this
end T80

/-! ===== smoke: the class's count ===== -/
def sumS (f : Nat → Nat) : Nat → Nat → Nat
  | 0, _ => 0
  | q + 1, i => f i + sumS f q (i + 1)
def smkN (n w : Nat) (kd wd bk : Nat → Nat) : Nat → Nat → (Nat → Nat) → Nat
  | 0, _, _ => 1
  | r + 1, p, F => sumS (fun i => if (i = 36 ∨ mvB n w kd wd F i = true) ∧ bset (passN n kd (mvd F i)) n = bk p then smkN n w kd wd bk r (p + 1) (passN n kd (mvd F i)) else 0) 37 0
def stM (n w : Nat) (kd wd bk : Nat → Nat) (r p : Nat) (F : Nat → Nat) (i : Nat) : Nat := if (i = 36 ∨ mvB n w kd wd F i = true) ∧ bset (passN n kd (mvd F i)) n = bk p then smkN n w kd wd bk r (p + 1) (passN n kd (mvd F i)) else 0
section T74
variable {g : OG} {d : Nat} {I : IT} {X : XT} {K : Int32 → IT → XT → Prop} {KV : IT → XT → Prop}
variable {n w : Nat} {kd nd wd bk : Nat → Nat} {F : Nat → Nat} {m f a D j z p : Nat}
theorem smkN_s {r : Nat} : smkN n w kd wd bk (r + 1) p F = sumS (stM n w kd wd bk r p F) 37 0 := rfl
def SK (p : Nat) (I I' : IT) : Prop := Same (fun b k => (b = 91 ∧ k = 3) ∨ (93 + 3 * (p + 1) ≤ b ∧ b ≤ 110)) I I'
theorem slv_m {p : Nat} (h : p < 6) : slvA p ∈ fireL := (slv_el_all p h).2.1
theorem c_X8_take {r i : Nat} (hj : j < 6) (hX : X.2.1 = rowA j) (hz5 : z ≤ 5) (hrz : I (rowA j) 1 = nI z) (hbk : ∀ k, k < z → I (rowA j + 1) k = nI (bk k) ∧ bk k < 32) (hp : z = p + (r + 1)) (he : iE I n w kd nd wd) (hf : FR I (93 + 3 * p) n F) (hw : WF n F m) (hm : m + (r + 1) ≤ 90) (hc : i = 36 ∨ mvN n w kd wd F i)
    (ih : ∀ (F' : Nat → Nat) (I' : IT) (KV' : IT → XT → Prop), I' (rowA j) 1 = nI z → (∀ k, k < z → I' (rowA j + 1) k = nI (bk k) ∧ bk k < 32) → iE I' n w kd nd wd → FR I' (93 + 3 * (p + 1)) n F' → WF n F' (m + 1) → (∀ I2, SK (p + 1) I' I2 → I2 91 3 = I' 91 3 + nI (smkN n w kd wd bk r (p + 1) F') → KV' I2 X) → CV g (d + 2 * r + 5) iX8_walk [rf g 91, .int (nI (p + 1))] I' X KV')
    (hK : ∀ I', SK p I I' → I' 91 3 = I 91 3 + nI (stM n w kd wd bk r p F i) → KV I' X) : CV g (d + 2 * r + 6) iX8_take [rf g 91, .int (nI p), .int (nI i)] I X KV := by
  have hn := he.1.2.2
  have hra : rowA j + 1 < 16 := by unfold rowA; omega
  have hmem : X.2.1 ∈ rowL := by rw [hX]; exact rowA_mem hj
  refine en_X8_take ⟨hmem, fun c => absurd c (nI_pos (by omega)), fun _ => ⟨fun _ => ?_, fun c => absurd (nI_lt (b := 5) (by omega) (by decide)) c⟩⟩
  rw [nI_1, nI_clamp (n := p) (by omega), nI_clamp (n := p + 1) (by omega)]
  refine ⟨vp_in_nI (by omega) (by decide), vp_in_nI (by omega) (by decide), ?_⟩
  refine c_X1_become (slv_m (by omega)) (slv_m (by omega)) (by unfold slvA; omega) hn hf hw.2.2.1 hw.2.2.2.1 (fun I3 h3 hf3 => ?_)
  refine c_bring (w := w) (kd := kd) (wd := wd) hn (slv_m (by omega)) hf3 hc (fun I5 h5 hf5 => ?_)
  have hs5 : SF (slvA (p + 1)) I I5 := h3.trans h5
  have hpl : slvA (p + 1) = 93 + 3 * (p + 1) := rfl
  have he5 := he.fire (slv_m (p := p + 1) (by omega)) hs5
  have hw5 : WF n (mvd F i) m := hw.mvd hn hc
  refine c_X1_pass (slv_m (by omega)) (by omega) he5 hf5 hw5 (by omega) (fun I7 h7 hf7 => ⟨hmem, ?_⟩)
  have hs7 : SF (slvA (p + 1)) I I7 := hs5.trans h7
  have hb7 := bset_lt (passN n kd (mvd F i)) n
  have h32 : (2 : Nat) ^ n ≤ 2 ^ 5 := Nat.pow_le_pow_right (by decide) hn
  obtain ⟨k1, k2⟩ := hbk p (by omega)
  rw [hX]
  refine c_X7_get (rowA_mem hj) (by rw [hs7 _ 1 (by omega)]; exact hrz) (by omega) (vp_in_nI (by omega) (by omega)) ?_
  rw [nI_clamp (by omega), hs7 _ p (by omega), k1, hf7.2.1, nI_eq (by omega) (by omega)]
  refine ⟨fun c => hK I7 (fun b k hb => hs7 b k (by omega)) ?_, fun c => ?_⟩
  · rw [hs7 91 3 (by omega)]
    unfold stM
    rw [if_neg (fun y => c y.2)]
    exact (Int32.add_zero _).symm
  · refine ih (passN n kd (mvd F i)) I7 KV (by rw [hs7 _ 1 (by omega)]; exact hrz) (fun k hk => by rw [hs7 _ k (by omega)]; exact hbk k hk) (he.fire (slv_m (p := p + 1) (by omega)) hs7) hf7 (hw5.pass hn (by omega)) (fun I2 h2 e2 => hK I2 (fun b k hb => ?_) ?_)
    · rw [h2 b k (by omega), hs7 b k (by omega)]
    · rw [e2, hs7 91 3 (by omega)]
      unfold stM
      rw [if_pos ⟨hc.imp id mvB_iff.mpr, c⟩]
theorem c_X8_walk (hj : j < 6) (hX : X.2.1 = rowA j) (hz5 : z ≤ 5) : ∀ (r p m : Nat) (F : Nat → Nat) (I : IT) (KV : IT → XT → Prop), z = p + r → m + r ≤ 90 → I (rowA j) 1 = nI z → (∀ k, k < z → I (rowA j + 1) k = nI (bk k) ∧ bk k < 32) → iE I n w kd nd wd → FR I (93 + 3 * p) n F → WF n F m → (∀ I', SK p I I' → I' 91 3 = I 91 3 + nI (smkN n w kd wd bk r p F) → KV I' X) → CV g (d + 2 * r + 5) iX8_walk [rf g 91, .int (nI p)] I X KV := by
  have hmem : X.2.1 ∈ rowL := by rw [hX]; exact rowA_mem hj
  have hra : rowA j + 1 < 16 := by unfold rowA; omega
  intro r
  induction r with
  | zero =>
    intro p m F I KV hp hm hrz hbk he hf hw hK
    refine en_X8_walk ⟨hmem, fun c => absurd c (nI_pos (by omega)), fun _ => ⟨fun _ => ⟨hmem, ?_⟩, fun c => absurd (nI_le (b := 5) (by omega) (by decide)) c⟩⟩
    rw [hX, hrz]
    refine ⟨fun c => absurd c (nI_nlt (by omega) (by omega)), fun _ I3 e3 => hK I3 ?_ ?_⟩
    · rw [e3]; exact Same.set (Or.inl ⟨rfl, rfl⟩)
    · rw [e3, set2_at, if_pos ⟨rfl, rfl⟩]; rfl
  | succ r ih =>
    intro p m F I KV hp hm hrz hbk he hf hw hK
    refine en_X8_walk ⟨hmem, fun c => absurd c (nI_pos (by omega)), fun _ => ⟨fun _ => ⟨hmem, ?_⟩, fun c => absurd (nI_le (b := 5) (by omega) (by decide)) c⟩⟩
    rw [hX, hrz]
    refine ⟨fun _ => ?_, fun c => absurd (nI_lt (by omega) (by omega)) c⟩
    have loop : ∀ (q i s : Nat) (I' : IT), i + q = 37 → SK p I I' → I' 91 3 = I 91 3 + nI s → s + sumS (stM n w kd wd bk r p F) q i = smkN n w kd wd bk (r + 1) p F → SR g (d + 2 * (r + 1) + 5) iX8_walk 41 [(0, rf g 91), (1, .int (nI p)), (2, .int (nI i))] I' X (qV KV) := by
      intro q
      induction q with
      | zero =>
        intro i s I' hi hS h3 hl
        obtain rfl : i = 37 := by omega
        have hl' : s = _ := hl
        exact rg_X8_walk_41 ⟨fun _ => hK I' hS (hl' ▸ h3), fun c => absurd (by decide) c⟩
      | succ q ihq =>
        intro i s I' hi hS h3 hl
        have he' : iE I' n w kd nd wd := he.same (fun b k hb => hS b k (by omega))
        have hf' : FR I' (93 + 3 * p) n F := hf.same (fun b k hb => hS b k (by omega))
        have hl' : s + (stM n w kd wd bk r p F i + sumS (stM n w kd wd bk r p F) q (i + 1)) = smkN n w kd wd bk (r + 1) p F := hl
        have tk : (i = 36 ∨ mvN n w kd wd F i) → CV g (d + 2 * r + 6) iX8_take [rf g 91, .int (nI p), .int (nI i)] I' X (fun I4 X5 => ∀ x6 : Int32, x6 = nI i + 1 → SR g (d + 2 * (r + 1) + 5) iX8_walk 41 [(0, rf g 91), (1, .int (nI p)), (2, .int x6)] I4 X5 (qV KV)) := by
          intro hc
          refine c_X8_take (m := m) (bk := bk) hj hX hz5 (by rw [hS _ 1 (by omega)]; exact hrz) (fun k hk => by rw [hS _ k (by omega)]; exact hbk k hk) hp he' hf' hw hm hc (fun F2 I2 KV2 a1 a2 a3 a4 a5 a6 => ih (p + 1) (m + 1) F2 I2 KV2 (by omega) (by omega) a1 a2 a3 a4 a5 a6) (fun I4 h4 e4 x6 e6 => ?_)
          subst e6
          rw [nI_1]
          exact ihq (i + 1) (s + stM n w kd wd bk r p F i) I4 (by omega) (hS.trans h4) (by rw [e4, h3, Int32.add_assoc, nI_add]) (by omega)
        refine rg_X8_walk_41 ⟨fun c => absurd c (nI_nlt (a := 36) (b := i) (by omega) (by decide)), fun _ => ?_⟩
        rw [show nI i = 36 ↔ i = 36 from nI_eqL 36 (by omega) (by decide)]
        refine ⟨fun e => tk (Or.inl e), fun e => ⟨vp_in_nI (by omega) (by decide), ?_⟩⟩
        rw [nI_clamp (n := p) (by omega)]
        refine c_X1_canMove (mv := i) (by omega) (slv_m (by omega)) (by unfold slvA; omega) he' hf' hw (by omega) (fun c => t_one (tk (Or.inr c))) (fun c => t_zero (fun x10 e10 => ?_))
        subst e10
        rw [nI_1]
        have hst : stM n w kd wd bk r p F i = 0 := by
          unfold stM
          rw [if_neg (fun y => y.1.elim e (fun x => c (mvB_iff.mp x)))]
        exact ihq (i + 1) s I' (by omega) hS h3 (by omega)
    exact loop 37 0 0 I rfl Same.rf (Int32.add_zero _).symm (Nat.zero_add _)
end T74

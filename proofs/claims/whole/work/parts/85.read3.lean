/-! ===== the class's reader: the winds, the whole text ===== -/
section T85
variable {g : OG} {d : Nat} {I : IT} {X : XT} {K : Int32 → IT → XT → Prop} {KV : IT → XT → Prop}
variable {z w m p t a f : Nat} {G : Nat → Int32} {hd wd : Nat → Nat}
theorem lp_winds (hP : PF a f) (hI0 : TX I t z G) {R : RD} (hK : ∀ I' p' q' w' wd', SR2 a f I I' → p' ≤ z → CLR I' a f 0 w' hd wd' → ¬ (figN (G p') ≤ 2 ∧ w' < 6) → wndR G z hd (q' + 1) p' w' wd' = R → K (nI p') I' X) : ∀ (r w p q : Nat) (wd : Nat → Nat) (I' : IT), w + r = 6 → q = r + 1 → p ≤ z → SR2 a f I I' → CLR I' a f 0 w hd wd → wndR G z hd q p w wd = R → SR g (d + 3) iX6_readWinds 2 [(0, rf g (textA t)), (2, rf g a), (3, .int (nI p))] I' X (qI K) := by
  have hP' : (a = 62 ∧ f = 66) ∨ (a = 24 ∧ f = 30) := hP
  have hz := hI0.2.2.1
  intro r
  induction r with
  | zero =>
    intro w p q wd I' hw hq hp hS hc he
    obtain rfl : w = 6 := by omega
    subst hq
    have ht : TX I' t z G := hI0.same (fun b k hb => hS b k (by omega))
    have fin := hK I' p 0 6 wd hS hp hc (fun y => by omega) he
    refine rg_X6_readWinds_2 (textA_mem hI0.1) hP.lane ⟨fun _ => fin, fun _ => en_X3_hasAllWinds hP.lane ?_⟩
    rw [hc.2.2.1]
    exact ⟨fun c => absurd c (by decide), fun _ => t_one' fin⟩
  | succ r ih =>
    intro w p q wd I' hw hq hp hS hc he
    subst hq
    have ht : TX I' t z G := hI0.same (fun b k hb => hS b k (by omega))
    refine rg_X6_readWinds_2 (textA_mem hI0.1) hP.lane ?_
    rw [ht.2.1]
    refine ⟨fun c => hK I' p (r + 1) w wd hS hp hc ?_ he, fun c => en_X3_hasAllWinds hP.lane ?_⟩
    · intro y
      have hpz : z ≤ p := Nat.not_lt.mp (fun q => absurd c (nI_ge q (by omega)))
      rw [hI0.2.2.2.2 p hpz, fig_1000] at y
      omega
    rw [hc.2.2.1]
    refine ⟨fun _ => t_zero' (ht.get (by omega) (c_X6_isFigure (hi := 2) (by omega) (fun y => t_one ?_) (fun y => t_zero (hK I' p (r + 1) w wd hS hp hc (fun q => y q.1) he)))), fun c => absurd (nI_lt (b := 6) (by omega) (by decide)) c⟩
    have hpz : p < z := Nat.not_le.mp (fun q => by rw [hI0.2.2.2.2 p q, fig_1000] at y; omega)
    refine ht.get (by omega) (en_X3_addWind hP.lane (en_X3_hasAllWinds hP.lane ?_))
    obtain ⟨c1, c2, c3, c4, c5, c6, c7, c8, c9, c10⟩ := hc
    rw [c3]
    refine ⟨fun _ => t_zero' ⟨vp_in_nI (by omega) (by decide), fun I5 e5 I6 e6 x15 e15 => ?_⟩, fun c => absurd (nI_lt (b := 6) (by omega) (by decide)) c⟩
    rw [nI_clamp (by omega), fig_sub (by omega)] at e5
    have c53 : I5 a 3 = nI w := by rw [e5, set2_at, if_neg (by omega)]; exact c3
    rw [c53, nI_1] at e6
    subst e15
    rw [nI_1]
    have at6 : ∀ b k, I6 b k = if b = a ∧ k = 3 then nI (w + 1) else if b = a + 3 ∧ k = w then nI (figN (G p)) else I' b k := fun b k => by rw [e6, set2_at, e5, set2_at]
    have ot6 : ∀ b k, ¬ (b = a ∧ k = 3) → ¬ (b = a + 3 ∧ k = w) → I6 b k = I' b k := fun b k q1 q2 => by rw [at6, if_neg q1, if_neg q2]
    refine ih (w + 1) (p + 1) (r + 1) (mW wd w (figN (G p))) I6 (by omega) rfl (by omega) (fun b k hb => by rw [ot6 b k (by omega) (by omega), hS b k hb]) ⟨?_, c2, ?_, by omega, fun h hh => absurd hh (Nat.not_lt_zero h), fun k hk => ?_, ?_, ?_, ?_, ?_⟩ ?_
    · rw [ot6 _ _ (by omega) (by omega)]; exact c1
    · rw [at6, if_pos ⟨rfl, rfl⟩]
    · rw [mW_at]
      by_cases e : k = w
      · subst e
        rw [if_pos rfl, at6, if_neg (by omega), if_pos ⟨rfl, rfl⟩]
        exact ⟨rfl, y⟩
      · rw [if_neg e, ot6 _ _ (by omega) (by omega)]
        exact c6 k (by omega)
    · rw [ot6 _ _ (by omega) (by omega)]; exact c7
    · rw [ot6 _ _ (by omega) (by omega)]; exact c8
    · rw [ot6 _ _ (by omega) (by omega)]; exact c9
    · rw [ot6 _ _ (by omega) (by omega)]; exact c10
    · rw [← he]
      show _ = if figN (G p) ≤ 2 ∧ w < 6 then _ else _
      rw [if_pos ⟨y, by omega⟩]
theorem c_X6_read (hP : PF a f) (ht0 : TX I t z G) (hK : ∀ I' (R : RD), SR2 a f I I' → R = sttR G z z0 z0 61 0 → (R.1 = 99 → CLR I' a f R.2.1 R.2.2.1 R.2.2.2.1 R.2.2.2.2 ∧ 0 < R.2.1 ∧ 0 < R.2.2.1) → (R.1 = 99 ∨ R.1 ≤ 63) → K (ndI R.1) I' X) : CI g (d + 5) iX6_read [rf g 61, rf g (textA t), rf g a, rf g f] I X K := by
  have hP' : (a = 62 ∧ f = 66) ∨ (a = 24 ∧ f = 30) := hP
  have hz := ht0.2.2.1
  refine en_X6_read (textA_mem ht0.1) hP.lane hP.fire (en_X3_clear hP.lane (fun I1 e1 I2 e2 => en_X1_clear hP.fire (fun I3 e3 I4 e4 I5 e5 I6 e6 => ?_)))
  have at6 : ∀ b k, I6 b k = if b = f ∧ k = 6 then 0 else if b = f ∧ k = 5 then 0 else if b = f ∧ k = 4 then 0 else if b = f ∧ k = 3 then 0 else if b = a ∧ k = 3 then 0 else if b = a ∧ k = 4 then 0 else I b k := fun b k => by rw [e6, set2_at, e5, set2_at, e4, set2_at, e3, set2_at, e2, set2_at, e1, set2_at]
  have hS6 : SR2 a f I I6 := fun b k hb => by rw [at6, if_neg (by omega), if_neg (by omega), if_neg (by omega), if_neg (by omega), if_neg (by omega), if_neg (by omega)]
  have hc6 : CLR I6 a f 0 0 z0 z0 := by
    refine ⟨?_, by omega, ?_, by omega, fun h hh => absurd hh (Nat.not_lt_zero h), fun h hh => absurd hh (Nat.not_lt_zero h), ?_, ?_, ?_, ?_⟩
    · rw [at6, if_neg (by omega), if_neg (by omega), if_neg (by omega), if_neg (by omega), if_neg (by omega), if_pos ⟨rfl, rfl⟩]; rfl
    · rw [at6, if_neg (by omega), if_neg (by omega), if_neg (by omega), if_neg (by omega), if_pos ⟨rfl, rfl⟩]; rfl
    · rw [at6, if_neg (by omega), if_neg (by omega), if_neg (by omega), if_pos ⟨rfl, rfl⟩]
    · rw [at6, if_neg (by omega), if_neg (by omega), if_pos ⟨rfl, rfl⟩]
    · rw [at6, if_neg (by omega), if_pos ⟨rfl, rfl⟩]
    · rw [at6, if_pos ⟨rfl, rfl⟩]
  clear e1 e2 e3 e4 e5 e6 at6
  have ht6 : TX I6 t z G := ht0.same (fun b k hb => hS6 b k (by omega))
  refine c_skip (p := 0) ht6 (Nat.zero_le _) (fun p0 _ a2 a3 a4 => ?_)
  obtain ⟨q', b1, b2⟩ := stt_skip (hd := z0) (wd := z0) a2 p0 0 61 (by omega) (by omega) a3
  obtain ⟨q2, rfl⟩ : ∃ q2, q' = q2 + 1 := ⟨q' - 1, by omega⟩
  have flt : ∀ (I' : IT) (v : Nat) (c : RD), SR2 a f I I' → v ≤ 63 → c.1 = v → c = sttR G z z0 z0 61 0 → K (nI v) I' X := by
    intro I' v c hS hv e1 e
    have := hK I' c hS e (fun y => absurd y (by rw [e1]; omega)) (Or.inr (by omega))
    rw [e1, ndI_lt (by omega)] at this
    exact this
  refine ht6.get (by omega) ⟨fun c => ?_, fun c => ?_⟩
  · have hpz : p0 < z := Nat.not_le.mp (fun q => by rw [ht0.2.2.2.2 p0 q] at c; exact absurd c (by decide))
    have es : wndR G z z0 7 (p0 + 1) 0 z0 = sttR G z z0 z0 61 0 := by
      rw [b2]
      show _ = if z ≤ p0 then _ else _
      rw [if_neg (by omega), if_neg a4, if_pos c]
    rw [nI_1]
    refine en_X6_readWinds (textA_mem ht0.1) hP.lane (lp_winds (hd := z0) hP ht6 (R := sttR G z z0 z0 61 0) (fun I' p' q3 w' wd' hS hp' hc' hno he => ?_) 6 0 (p0 + 1) 7 z0 I6 rfl rfl (by omega) Same.rf hc6 es)
    have ht' : TX I' t z G := ht6.same (fun b k hb => hS b k (by omega))
    have hno' : wndR G z z0 (q3 + 1) p' w' wd' = if w' = 0 then (p', 0, w', z0, wd') else houR G z w' wd' 61 p' 0 z0 := by
      show (if figN (G p') ≤ 2 ∧ w' < 6 then _ else _) = _
      rw [if_neg hno]
    refine en_X3_hasWinds hP.lane ?_
    rw [hc'.2.2.1]
    by_cases w0 : w' = 0
    · rw [if_pos w0] at hno'
      subst w0
      exact ⟨fun _ => t_zero' (flt I' p' _ (hS6.trans hS) (by omega) rfl (hno'.symm.trans he)), fun y => absurd (by decide) y⟩
    · rw [if_neg w0] at hno'
      have hw6 := hc'.2.2.2.1
      refine ⟨fun y => absurd y (nI_ge (a := 0) (b := w') (by omega) (by omega)), fun _ => t_one' (c_skip ht' hp' (fun p2 _ d2 d3 d4 => ?_))⟩
      obtain ⟨q4, f1, f2⟩ := hou_skip (w := w') (wd := wd') (m := 0) (hd := z0) d2 (p2 - p') p' 61 (by omega) (by omega) d3
      refine lp_houses (hd := z0) (wd := wd') (w := w') (p := p') hP ht' (fun I2 R h2 eR hR hb => ?_) 5 0 p2 q4 z0 I' rfl d2 f1 d4 Same.rf hc' f2.symm
      exact hK I2 R ((hS6.trans hS).trans h2) (eR.trans (hno'.symm.trans he)) (fun y => ⟨(hR y).1, (hR y).2.1, by rw [(hR y).2.2]; omega⟩) hb
  · have es : sttR G z z0 z0 61 0 = if z ≤ p0 then (z, 0, 0, z0, z0) else (p0, 0, 0, z0, z0) := by
      rw [b2]
      show (if z ≤ p0 then _ else _) = _
      by_cases q : z ≤ p0
      · rw [if_pos q, if_pos q]
      · rw [if_neg q, if_neg q, if_neg a4, if_neg c]
    by_cases q : z ≤ p0
    · rw [if_pos q] at es
      obtain rfl : p0 = z := by omega
      exact flt I6 p0 _ hS6 (by omega) rfl es.symm
    · rw [if_neg q] at es
      exact flt I6 p0 _ hS6 (by omega) rfl es.symm
end T85

-- a law's steps and lines, worked out
theorem e_seg {l : Nat} (hl : l < 4) (hour cnt : Int32) {len ye : Nat} (hlen : len ≤ 121) (hye : ye ≤ 130) : ∀ (os : List zOp) (d e x y F G : Nat) (SX SR : zSt), zDs os d e → zAt (SX.2.1 (5010 + l)) (SR.2.1 17) (SR.2.1 18) os x (130 * l + y) → SX.2.1 502 l = Int32.ofNat len → x + os.length < len → d ≤ x → y + os.length ≤ ye → os.length ≤ F → os.length ≤ G →
    (SR.2.1 22 0 = hour ∧ SR.2.1 22 1 = hour - hour / 24 * 24 ∧ SR.2.1 22 2 = SX.1 506 ∧ SR.2.1 22 3 = SX.1 507) → zSk d SX SR →
    ∃ SX1 SR1 : zSt, fX4_worth_b10 zN F (Int32.ofNat l) hour cnt (Int32.ofNat x) SX = fX4_worth_b10 zN (F - os.length) (Int32.ofNat l) hour cnt (Int32.ofNat (x + os.length)) SX1 ∧
      fX12_worked_b12 zN G (Int32.ofNat l) (Int32.ofNat ye) (Int32.ofNat d) (Int32.ofNat (130 * l + y)) SR = fX12_worked_b12 zN (G - os.length) (Int32.ofNat l) (Int32.ofNat ye) (Int32.ofNat e) (Int32.ofNat (130 * l + y + os.length)) SR1 ∧ zSk e SX1 SR1 ∧ zKeep [504] [503] SX SX1 ∧ zKeep [] [23] SR SR1 := by
  intro os
  induction os with
  | nil =>
    intro d e x y F G SX SR hD hA h5 h6 h7 h8 h9 h10 hf hs
    have hD : d = e := hD
    subst hD
    exact ⟨SX, SR, rfl, rfl, hs, zK_refl _, zK_refl _⟩
  | cons o r ih =>
    intro d e x y F G SX SR hD hA h5 h6 h7 h8 h9 h10 hf hs
    rw [List.length_cons] at h6 h8 h9 h10
    obtain _ | F := F
    · exact absurd h9 (by omega)
    obtain _ | G := G
    · exact absurd h10 (by omega)
    obtain ⟨a1, a2, a3, a4⟩ := hA
    obtain ⟨f0, f1, f2, f3⟩ := id hf
    have z4 : zin (Int32.ofNat l) 4 := zin_o hl (by decide)
    have zx : zin (Int32.ofNat x) 121 := zin_o (by omega) (by decide)
    have zy : zin (Int32.ofNat (130 * l + y)) 650 := zin_o (by omega) (by decide)
    have e130 : (130 : Int32) * Int32.ofNat l + Int32.ofNat ye = Int32.ofNat (130 * l + ye) := by
      rw [Int32.ofNat_add, Int32.ofNat_mul]
      rfl
    have eF : F + 1 - (r.length + 1) = F - r.length := by omega
    have eG : G + 1 - (r.length + 1) = G - r.length := by omega
    have ex : x + (r.length + 1) = x + 1 + r.length := by omega
    have ey : 130 * l + y + (r.length + 1) = 130 * l + (y + 1) + r.length := by omega
    have ey2 : 130 * l + y + 1 = 130 * l + (y + 1) := by omega
    rw [List.length_cons, eF, eG, ex, ey]
    -- what each side does with this step
    have stX : ∀ (SX1 : zSt), ¬ zXc o = -63 → ¬ zXc o = -59 → fX4_work (zXc o) hour SX = some SX1 → fX4_worth_b10 zN (F + 1) (Int32.ofNat l) hour cnt (Int32.ofNat x) SX = fX4_worth_b10 zN F (Int32.ofNat l) hour cnt (Int32.ofNat (x + 1)) SX1 := fun SX1 n1 n2 hw => by
      rw [fX4_worth_b10]
      simp only [if_pos z4, if_pos zx]
      rw [zo_t (by omega), zo_t (by omega), h5, zi_le (by omega) (by omega), if_neg (by omega), a1, zL_def, if_neg n1, if_neg n2, hw, zU_some, zo_s]
    have stR : fX12_worked_b12 zN (G + 1) (Int32.ofNat l) (Int32.ofNat ye) (Int32.ofNat d) (Int32.ofNat (130 * l + y)) SR = (if o.1 = 1 then (fX12_worked_b45 zN (fX12_worked_b12 zN G) (Int32.ofNat l) (Int32.ofNat ye) (Int32.ofNat d) (Int32.ofNat (130 * l + y)) o.1 SR) else (if o.1 = 2 then (fX12_worked_b45 zN (fX12_worked_b12 zN G) (Int32.ofNat l) (Int32.ofNat ye) (Int32.ofNat d) (Int32.ofNat (130 * l + y)) o.1 SR) else (if o.1 = 3 then (if zin (Int32.ofNat d - 1) 130 then if (SR.2.1 23 (Int32.toNatClampNeg (Int32.ofNat d - 1))) = 0 then (fX12_worked_b117 zN (fX12_worked_b12 zN G) (Int32.ofNat l) (Int32.ofNat ye) (Int32.ofNat d) (Int32.ofNat (130 * l + y)) (Int32.ofNat d - 1) 1 SR) else (fX12_worked_b117 zN (fX12_worked_b12 zN G) (Int32.ofNat l) (Int32.ofNat ye) (Int32.ofNat d) (Int32.ofNat (130 * l + y)) (Int32.ofNat d - 1) 0 SR) else none) else (if o.1 = 4 then (if zin (Int32.ofNat d - 1) 130 then if zin (Int32.ofNat d - 1) 130 then zL (zA SR 23 (Int32.toNatClampNeg (Int32.ofNat d - 1)) (-(SR.2.1 23 (Int32.toNatClampNeg (Int32.ofNat d - 1))))) fun S25 => fX12_worked_b12 zN G (Int32.ofNat l) (Int32.ofNat ye) (Int32.ofNat d) (Int32.ofNat (130 * l + y) + 1) S25 else none else none) else (if zin ((Int32.ofNat d + (-1)) - 1) 130 then if zin (Int32.ofNat d + (-1)) 130 then zU (fX12_twoOf o.1 (SR.2.1 23 (Int32.toNatClampNeg ((Int32.ofNat d + (-1)) - 1))) (SR.2.1 23 (Int32.toNatClampNeg (Int32.ofNat d + (-1))))) fun r18 => if zin ((Int32.ofNat d + (-1)) - 1) 130 then zL (zA SR 23 (Int32.toNatClampNeg ((Int32.ofNat d + (-1)) - 1)) r18) fun S22 => fX12_worked_b12 zN G (Int32.ofNat l) (Int32.ofNat ye) (Int32.ofNat d + (-1)) (Int32.ofNat (130 * l + y) + 1) S22 else none else none else none))))) := by
      have el : ¬ Int32.ofNat (130 * l + ye) ≤ Int32.ofNat (130 * l + y) := by
        rw [zo_le (by omega) (by omega)]
        omega
      rw [fX12_worked_b12, e130, if_neg el, if_pos zy, zo_t (by omega), a2]
    have fac : ∀ (SX1 SR1 : zSt), zKeep [504] [503] SX SX1 → zKeep [] [23] SR SR1 → SR1.2.1 22 0 = hour ∧ SR1.2.1 22 1 = hour - hour / 24 * 24 ∧ SR1.2.1 22 2 = SX1.1 506 ∧ SR1.2.1 22 3 = SX1.1 507 := fun SX1 SR1 k1 k2 => by
      rw [k2.2.1 22 (by decide), k1.1 506 (by decide), k1.1 507 (by decide)]
      exact hf
    have nxt : ∀ (SX1 SR1 : zSt) (d1 : Nat), zDs r d1 e → d1 ≤ x + 1 → zKeep [504] [503] SX SX1 → zKeep [] [23] SR SR1 → zSk d1 SX1 SR1 → fX4_worth_b10 zN (F + 1) (Int32.ofNat l) hour cnt (Int32.ofNat x) SX = fX4_worth_b10 zN F (Int32.ofNat l) hour cnt (Int32.ofNat (x + 1)) SX1 → fX12_worked_b12 zN (G + 1) (Int32.ofNat l) (Int32.ofNat ye) (Int32.ofNat d) (Int32.ofNat (130 * l + y)) SR = fX12_worked_b12 zN G (Int32.ofNat l) (Int32.ofNat ye) (Int32.ofNat d1) (Int32.ofNat (130 * l + (y + 1))) SR1 →
        ∃ SX2 SR2 : zSt, fX4_worth_b10 zN (F + 1) (Int32.ofNat l) hour cnt (Int32.ofNat x) SX = fX4_worth_b10 zN (F - r.length) (Int32.ofNat l) hour cnt (Int32.ofNat (x + 1 + r.length)) SX2 ∧ fX12_worked_b12 zN (G + 1) (Int32.ofNat l) (Int32.ofNat ye) (Int32.ofNat d) (Int32.ofNat (130 * l + y)) SR = fX12_worked_b12 zN (G - r.length) (Int32.ofNat l) (Int32.ofNat ye) (Int32.ofNat e) (Int32.ofNat (130 * l + (y + 1) + r.length)) SR2 ∧ zSk e SX2 SR2 ∧ zKeep [504] [503] SX SX2 ∧ zKeep [] [23] SR SR2 := fun SX1 SR1 d1 hD1 hd1 k1 k2 hs1 eX eR => by
      obtain ⟨SX2, SR2, i1, i2, i3, i4, i5⟩ := ih d1 e (x + 1) (y + 1) F G SX1 SR1 hD1 (by rw [k1.2.1 (5010 + l) (by simp; omega), k2.2.1 17 (by decide), k2.2.1 18 (by decide), ← ey2]; exact a4) (by rw [k1.2.1 502 (by decide)]; exact h5) (by omega) hd1 (by omega) (by omega) (by omega) (fac SX1 SR1 k1 k2) hs1
      exact ⟨SX2, SR2, eX.trans i1, eR.trans i2, i3, zK_t k1 i4, zK_t k2 i5⟩
    rcases hD with ⟨ho, hD⟩ | ⟨ho, hd1, hD⟩ | ⟨ho, hd2, hD⟩
    · obtain ⟨v, w1, w2, w3, w4⟩ := e_op1 (by omega) hs f0 f1 f2 f3 ho
      have zd : zin (Int32.ofNat d) 130 := zin_o (by omega) (by decide)
      have hs1 : zSk (d + 1) (zI (zA SX 503 d v) 504 (Int32.ofNat (d + 1))) (zA SR 23 d v) := ⟨zI_self _ _ _, fun i hi => by
        show (zA SX 503 d v).2.1 503 i = (zA SR 23 d v).2.1 23 i
        rw [zA_get0, zA_get0]
        by_cases q : i = d
        · rw [if_pos q, if_pos q]
        · rw [if_neg q, if_neg q]; exact hs.2 i (by omega)⟩
      refine nxt _ _ (d + 1) hD (by omega) (zK_pu _ _ _ _) (zK_23 _ _ _) hs1 (stX _ w2 w3 w1) ?_
      rw [stR]
      unfold fX12_worked_b45 fX12_worked_b79
      rcases w4 with ⟨q1, q2⟩ | ⟨q1, q2, q3⟩
      · rw [q1, if_pos rfl, if_pos rfl, if_pos zy, if_pos zd, zL_def, zo_t (by omega), zo_t (by omega), a3, zo_s, zo_s, ey2, q2]
      · have n21 : ¬ (2 : Int32) = 1 := by decide
        have zw : zin (SR.2.1 18 (Int32.toNatClampNeg (Int32.ofNat (130 * l + y)))) 4 := by rw [zo_t (by omega), a3]; exact q2
        rw [q1, if_neg n21, if_pos rfl, if_neg n21, if_pos zy, if_pos zw, if_pos zd, zL_def, zo_t (by omega), zo_t (by omega), a3, zo_s, zo_s, ey2, q3]
    · obtain ⟨c, rfl⟩ : ∃ c, d = c + 1 := ⟨d - 1, by omega⟩
      obtain ⟨v, w1, w2, w3, w4⟩ := e_op2 (hour := hour) (by omega) hs ho
      have zd : zin (Int32.ofNat c) 130 := zin_o (by omega) (by decide)
      have ec : Int32.ofNat (c + 1) - 1 = Int32.ofNat c := zo_p (by omega)
      have hs1 : zSk (c + 1) (zI (zA (zI SX 504 (Int32.ofNat c)) 503 c v) 504 (Int32.ofNat (c + 1))) (zA SR 23 c v) := ⟨zI_self _ _ _, fun i hi => by
        show (zA (zI SX 504 (Int32.ofNat c)) 503 c v).2.1 503 i = (zA SR 23 c v).2.1 23 i
        rw [zA_get0, zA_get0]
        by_cases q : i = c
        · rw [if_pos q, if_pos q]
        · rw [if_neg q, if_neg q]; exact hs.2 i (by omega)⟩
      refine nxt _ _ (c + 1) hD (by omega) (zK_t (zK_p _ _) (zK_pu _ _ _ _)) (zK_23 _ _ _) hs1 (stX _ w2 w3 w1) ?_
      rw [stR, ec]
      unfold fX12_worked_b117
      rcases w4 with ⟨q1, q2⟩ | ⟨q1, q2⟩
      · rw [q1, if_neg (show ¬ (3 : Int32) = 1 by decide), if_neg (show ¬ (3 : Int32) = 2 by decide), if_pos rfl]
        simp only [if_pos zd, zL_def]
        rw [zo_t (by omega), zo_s, ey2, q2]
        split <;> rfl
      · rw [q1, if_neg (show ¬ (4 : Int32) = 1 by decide), if_neg (show ¬ (4 : Int32) = 2 by decide), if_neg (show ¬ (4 : Int32) = 3 by decide), if_pos rfl]
        simp only [if_pos zd, zL_def]
        rw [zo_t (by omega), zo_s, ey2, q2]
    · obtain ⟨c, rfl⟩ : ∃ c, d = c + 2 := ⟨d - 2, by omega⟩
      obtain ⟨v, w1, w2, w3, w4⟩ := e_op3 (hour := hour) (by omega) hs ho
      obtain ⟨-, -, -, n1, n2, n3, n4⟩ := zXc_sgn (u := o.2) ho
      have zd : zin (Int32.ofNat c) 130 := zin_o (by omega) (by decide)
      have zd1 : zin (Int32.ofNat (c + 1)) 130 := zin_o (by omega) (by decide)
      have ec : Int32.ofNat (c + 2) + (-1) = Int32.ofNat (c + 1) := zo_m (by omega)
      have ec2 : Int32.ofNat (c + 1) - 1 = Int32.ofNat c := zo_p (by omega)
      have hs1 : zSk (c + 1) (zI (zA (zI (zI SX 504 (Int32.ofNat (c + 1))) 504 (Int32.ofNat c)) 503 c v) 504 (Int32.ofNat (c + 1))) (zA SR 23 c v) := ⟨zI_self _ _ _, fun i hi => by
        show (zA (zI (zI SX 504 (Int32.ofNat (c + 1))) 504 (Int32.ofNat c)) 503 c v).2.1 503 i = (zA SR 23 c v).2.1 23 i
        rw [zA_get0, zA_get0]
        by_cases q : i = c
        · rw [if_pos q, if_pos q]
        · rw [if_neg q, if_neg q]; exact hs.2 i (by omega)⟩
      refine nxt _ _ (c + 1) hD (by omega) (zK_t (zK_t (zK_p _ _) (zK_p _ _)) (zK_pu _ _ _ _)) (zK_23 _ _ _) hs1 (stX _ w2 w3 w1) ?_
      rw [stR, ec, ec2, if_neg n1, if_neg n2, if_neg n3, if_neg n4]
      simp only [if_pos zd, if_pos zd1, zL_def]
      rw [zo_t (by omega), zo_t (by omega), w4, zU_some, zo_s, ey2]
/-- a whole segment on the reference's side -/
theorem r_worked {l : Nat} (hl : l < 4) (hour : Int32) {len y : Nat} (hlen : len ≤ 121) {os : List zOp} {x : Nat} {SX SR : zSt} (hD : zDs os 0 1) (hA : zAt (SX.2.1 (5010 + l)) (SR.2.1 17) (SR.2.1 18) os x (130 * l + y)) (h5 : SX.2.1 502 l = Int32.ofNat len) (h6 : x + os.length < len) (h8 : y + os.length ≤ 130) (hf : SR.2.1 22 0 = hour ∧ SR.2.1 22 1 = hour - hour / 24 * 24 ∧ SR.2.1 22 2 = SX.1 506 ∧ SR.2.1 22 3 = SX.1 507) (h504 : SX.1 504 = 0) (cnt : Int32) {F : Nat} (hF : os.length ≤ F) :
    ∃ (v : Int32) (SX1 SR1 : zSt), fX4_worth_b10 zN F (Int32.ofNat l) hour cnt (Int32.ofNat x) SX = fX4_worth_b10 zN (F - os.length) (Int32.ofNat l) hour cnt (Int32.ofNat (x + os.length)) SX1 ∧ fX12_worked zN (Int32.ofNat l) (Int32.ofNat y) (Int32.ofNat (y + os.length)) SR = some (v, SR1) ∧ SX1.1 504 = Int32.ofNat 1 ∧ SX1.2.1 503 0 = v ∧ zKeep [504] [503] SX SX1 ∧ zKeep [] [23] SR SR1 := by
  obtain ⟨SX1, SR1, a1, a2, a3, a4, a5⟩ := e_seg hl hour cnt hlen (ye := y + os.length) (by omega) os 0 1 x y F zN SX SR hD hA h5 h6 (by omega) (Nat.le_refl _) hF (Nat.le_trans (by omega : os.length ≤ 121) (by decide)) hf ⟨h504, fun i hi => absurd hi (by omega)⟩
  have e130 : (130 : Int32) * Int32.ofNat l + Int32.ofNat y = Int32.ofNat (130 * l + y) := by
    rw [Int32.ofNat_add, Int32.ofNat_mul]
    rfl
  have e131 : (130 : Int32) * Int32.ofNat l + Int32.ofNat (y + os.length) = Int32.ofNat (130 * l + y + os.length) := by
    rw [Nat.add_assoc, Int32.ofNat_add (130 * l), Int32.ofNat_mul]
    rfl
  refine ⟨SR1.2.1 23 0, SX1, SR1, a1, ?_, a3.1, a3.2 0 (by omega), a4, a5⟩
  unfold fX12_worked
  rw [e130]
  refine (show _ = _ from a2).trans ?_
  obtain ⟨G, hG⟩ : ∃ G, zN - os.length = G + 1 := ⟨zN - os.length - 1, by
    have : os.length ≤ 121 := by omega
    have h : zN = 1000000 := rfl
    omega⟩
  rw [hG, fX12_worked_b12, e131, if_pos (Int32.le_refl _), if_pos (show zin 0 130 by decide)]
  rfl
theorem zAt_K {a b : zSt} {c d : zSt} {I A : List Nat} {l : Nat} {os : List zOp} {x y : Nat} (k1 : zKeep [504] [503] a b) (k2 : zKeep [] [23] c d) (h : zAt (a.2.1 (5010 + l)) (c.2.1 17) (c.2.1 18) os x y) : zAt (b.2.1 (5010 + l)) (d.2.1 17) (d.2.1 18) os x y := by
  rw [k1.2.1 (5010 + l) (by simp; omega), k2.2.1 17 (by decide), k2.2.1 18 (by decide)]
  exact h
theorem e_lines {l : Nat} (hl : l < 4) (hour : Int32) {len nl : Nat} (hlen : len ≤ 121) (hnl : nl ≤ 61) : ∀ (ls : List (List zOp × List zOp)) (x y k F G : Nat) (SX SR : zSt), zLR (SX.2.1 (5010 + l)) (SR.2.1 17) (SR.2.1 18) (SR.2.1 20) (SR.2.1 21) (130 * l) (61 * l) ls x y k → SX.2.1 502 l = Int32.ofNat len → SR.2.1 19 l = Int32.ofNat nl → x + zXt ls = len → k + ls.length = nl → y + zYt ls ≤ 130 → zXt ls < F → ls.length < G → SX.1 504 = 0 →
    (SR.2.1 22 0 = hour ∧ SR.2.1 22 1 = hour - hour / 24 * 24 ∧ SR.2.1 22 2 = SX.1 506 ∧ SR.2.1 22 3 = SX.1 507) →
    ∃ (v : Int32) (SX1 SR1 : zSt), fX4_worth_b10 zN F (Int32.ofNat l) hour 1 (Int32.ofNat x) SX = some (v, SX1) ∧ fX12_gives_b7 zN G (Int32.ofNat l) (Int32.ofNat y) (Int32.ofNat (61 * l + k)) SR = some (v, SR1) ∧ zKeep [504] [503] SX SX1 ∧ zKeep [] [23] SR SR1 := by
  have z4 : zin (Int32.ofNat l) 4 := zin_o hl (by decide)
  have z5 : zin (Int32.ofNat l) 5 := zin_o (by omega) (by decide)
  have e61 : (61 : Int32) * Int32.ofNat l + Int32.ofNat nl = Int32.ofNat (61 * l + nl) := by
    rw [Int32.ofNat_add, Int32.ofNat_mul]
    rfl
  intro ls
  induction ls with
  | nil =>
    intro x y k F G SX SR hL h5 h19 hx hk hy hF hG h504 hf
    obtain _ | F := F
    · exact absurd hF (by omega)
    obtain _ | G := G
    · exact absurd hG (by omega)
    have hx : x = len := hx
    have hk : k = nl := hk
    subst hx hk
    refine ⟨0, SX, SR, ?_, ?_, zK_refl _, zK_refl _⟩
    · rw [fX4_worth_b10]
      simp only [if_pos z4]
      rw [zo_t (by omega), h5, if_pos (Int32.le_refl _)]
    · rw [fX12_gives_b7, if_pos z5, zo_t (by omega), h19, e61, if_pos (Int32.le_refl _)]
  | cons ln r ih =>
    intro x y k F G SX SR hL h5 h19 hx hk hy hF hG h504 hf
    obtain ⟨a, b⟩ := ln
    obtain ⟨g1, g2, g3, g4, g5, g6, g7, g8⟩ := hL
    have g2 : zDs b 0 1 := g2
    have g3 : zAt _ _ _ a x (130 * l + y) := g3
    have g4 : zAt _ _ _ b (x + zXl a) (130 * l + (y + a.length)) := g4
    have g5 : SX.2.1 (5010 + l) (x + zXl a + b.length) = -59 := g5
    have g6 : SR.2.1 20 (61 * l + k) = Int32.ofNat (y + a.length) := g6
    have g7 : SR.2.1 21 (61 * l + k) = Int32.ofNat (y + a.length + b.length) := g7
    have g8 : zLR _ _ _ _ _ _ _ r (x + zXl a + b.length + 1) (y + a.length + b.length) (k + 1) := g8
    have hx : x + (zXl a + b.length + 1 + zXt r) = len := hx
    have hy : y + (a.length + b.length + zYt r) ≤ 130 := hy
    have hF : zXl a + b.length + 1 + zXt r < F := hF
    rw [List.length_cons] at hk hG
    obtain _ | G := G
    · exact absurd hG (by omega)
    have z305 : zin (Int32.ofNat (61 * l + k)) 305 := zin_o (by omega) (by decide)
    have nend : ¬ Int32.ofNat (61 * l + nl) ≤ Int32.ofNat (61 * l + k) := by
      rw [zo_le (by omega) (by omega)]
      omega
    have hal : a.length ≤ zXl a := by
      unfold zXl
      split
      · rename_i h; rw [h]; exact Nat.le_refl _
      · omega
    -- a whole line's second segment, and its end
    have valX : ∀ (cnt : Int32) (F : Nat) (SX2 SR2 : zSt), zKeep [504] [503] SX SX2 → zKeep [] [23] SR SR2 → SX2.1 504 = 0 → b.length < F → ∃ (v : Int32) (SX3 SR3 : zSt), fX4_worth_b10 zN F (Int32.ofNat l) hour cnt (Int32.ofNat (x + zXl a)) SX2 = (if cnt = 0 then fX4_worth_b10 zN (F - b.length - 1) (Int32.ofNat l) hour 1 (Int32.ofNat (x + zXl a + b.length + 1)) SX3 else some (v, SX3)) ∧ fX12_worked zN (Int32.ofNat l) (Int32.ofNat (y + a.length)) (Int32.ofNat (y + a.length + b.length)) SR2 = some (v, SR3) ∧ SX3.1 504 = 0 ∧ zKeep [504] [503] SX SX3 ∧ zKeep [] [23] SR SR3 := fun cnt F SX2 SR2 k1 k2 h0 hbF => by
      obtain ⟨v, SX3, SR3, w1, w2, w3, w4, w5, w6⟩ := r_worked hl hour hlen (x := x + zXl a) (y := y + a.length) g2 (zAt_K (I := []) (A := []) k1 k2 g4) (by rw [k1.2.1 502 (by decide)]; exact h5) (by omega) (by omega) (by rw [k2.2.1 22 (by decide), k1.1 506 (by decide), k1.1 507 (by decide)]; exact hf) h0 cnt (F := F) (by omega)
      obtain ⟨F2, hF2⟩ : ∃ F2, F - b.length = F2 + 1 := ⟨F - b.length - 1, by omega⟩
      have zx : zin (Int32.ofNat (x + zXl a + b.length)) 121 := zin_o (by omega) (by decide)
      refine ⟨v, zI SX3 504 (Int32.ofNat 0), SR3, ?_, w2, zI_self _ _ _, zK_t k1 (zK_t w5 (zK_p _ _)), zK_t k2 w6⟩
      rw [w1, hF2, fX4_worth_b10]
      simp only [if_pos z4, if_pos zx]
      rw [zo_t (by omega), zo_t (by omega), w5.2.1 502 (by decide), k1.2.1 502 (by decide), h5, zi_le (by omega) (by omega), if_neg (by omega), w5.2.1 (5010 + l) (by simp; omega), k1.2.1 (5010 + l) (by simp; omega), g5, zL_def, if_neg (show ¬ (-59 : Int32) = -63 by decide), if_pos (show (-59 : Int32) = -59 from rfl), x_pop (d := 0) (by omega) w3, zB_some, w4, Nat.add_sub_cancel, zo_s]
    rw [fX12_gives_b7]
    simp only [if_pos z5, if_pos z305]
    rw [zo_t (by omega), zo_t (by omega), h19, e61, if_neg nend, g6]
    unfold fX12_gives_b47
    by_cases ea : a = []
    · have l0 : a.length = 0 := by rw [ea]; rfl
      have x0 : zXl a = 0 := by unfold zXl; rw [if_pos ea]
      obtain ⟨v, SX3, SR3, w1, w2, w3, w4, w5⟩ := valX 1 F SX SR (zK_refl _) (zK_refl _) h504 (by omega)
      refine ⟨v, SX3, SR3, ?_, ?_, w4, w5⟩
      · rw [x0, Nat.add_zero] at w1
        rw [w1, if_neg zn10]
      · rw [l0, Nat.add_zero, if_pos rfl, if_pos z305, if_pos z305, zo_t (by omega), g6, g7, w2, zB_some]
    · have x1 : zXl a = a.length + 1 := by unfold zXl; rw [if_neg ea]
      have la : 1 ≤ a.length := by
        obtain _ | ⟨o, r2⟩ := a
        · exact absurd rfl ea
        · rw [List.length_cons]; omega
      obtain ⟨ga, gb⟩ : zDs a 0 1 ∧ SX.2.1 (5010 + l) (x + a.length) = -63 := by
        rcases g1 with g1 | g1
        · exact absurd g1 ea
        · exact g1
      obtain ⟨va, SX2, SR2, u1, u2, u3, u4, u5, u6⟩ := r_worked hl hour hlen (x := x) (y := y) ga g3 h5 (by omega) (by omega) hf h504 1 (F := F) (by omega)
      obtain ⟨F2, hF2⟩ : ∃ F2, F - a.length = F2 + 1 := ⟨F - a.length - 1, by omega⟩
      have zx : zin (Int32.ofNat (x + a.length)) 121 := zin_o (by omega) (by decide)
      have ne : ¬ Int32.ofNat (y + a.length) = Int32.ofNat y := by
        rw [zo_eq (by omega) (by omega)]
        omega
      have kI := zK_p SX2 (Int32.ofNat 0)
      have exl : x + a.length + 1 = x + zXl a := by omega
      have stp : fX4_worth_b10 zN F (Int32.ofNat l) hour 1 (Int32.ofNat x) SX = fX4_worth_b10 zN F2 (Int32.ofNat l) hour (if va = 0 then 0 else 1) (Int32.ofNat (x + zXl a)) (zI SX2 504 (Int32.ofNat 0)) := by
        rw [u1, hF2, fX4_worth_b10]
        simp only [if_pos z4, if_pos zx]
        unfold fX4_worth_b51
        rw [zo_t (by omega), zo_t (by omega), u5.2.1 502 (by decide), h5, zi_le (by omega) (by omega), if_neg (by omega), u5.2.1 (5010 + l) (by simp; omega), gb, zL_def, if_pos (show (-63 : Int32) = -63 from rfl), x_pop (d := 0) (by omega) u3, zB_some, u4, zo_s, exl]
        by_cases q : va = 0
        · rw [if_pos q, if_pos q]
        · rw [if_neg q, if_neg q]
      obtain ⟨v, SX3, SR3, w1, w2, w3, w4, w5⟩ := valX (if va = 0 then 0 else 1) F2 (zI SX2 504 (Int32.ofNat 0)) SR2 (zK_t u5 kI) u6 (zI_self _ _ _) (by omega)
      rw [if_neg ne, u2, zB_some]
      by_cases q : va = 0
      · rw [if_pos q] at w1 stp
        rw [if_pos zn00] at w1
        obtain ⟨v2, SX4, SR4, i1, i2, i3, i4⟩ := ih (x + zXl a + b.length + 1) (y + a.length + b.length) (k + 1) (F2 - b.length - 1) G SX3 SR2 (by
            rw [w4.2.1 (5010 + l) (by simp; omega), u6.2.1 17 (by decide), u6.2.1 18 (by decide), u6.2.1 20 (by decide), u6.2.1 21 (by decide)]
            exact g8) (by rw [w4.2.1 502 (by decide)]; exact h5) (by rw [u6.2.1 19 (by decide)]; exact h19) (by omega) (by omega) (by omega) (by omega) (by omega) w3 (by rw [u6.2.1 22 (by decide), w4.1 506 (by decide), w4.1 507 (by decide)]; exact hf)
        refine ⟨v2, SX4, SR4, ?_, ?_, zK_t w4 i3, zK_t u6 i4⟩
        · rw [stp, w1, i1]
        · rw [if_pos q, u6.2.1 21 (by decide), g7, zo_s]
          exact i2
      · rw [if_neg q] at w1 stp
        rw [if_neg zn10] at w1
        refine ⟨v, SX3, SR3, ?_, ?_, w4, w5⟩
        · rw [stp, w1]
        · rw [if_neg q, if_pos z305, if_pos z305, zo_t (by omega), u6.2.1 20 (by decide), u6.2.1 21 (by decide), g6, g7, w2, zB_some]
theorem e_law {l : Nat} (hl : l < 4) (hour : Int32) {SX SR : zSt} (h : zLaw l (SX.2.1 502 l) (SX.2.1 (5010 + l)) (SR.2.1 17) (SR.2.1 18) (SR.2.1 19 l) (SR.2.1 20) (SR.2.1 21))
    (hf : SR.2.1 22 0 = hour ∧ SR.2.1 22 1 = hour - hour / 24 * 24 ∧ SR.2.1 22 2 = SX.1 506 ∧ SR.2.1 22 3 = SX.1 507) :
    ∃ (v : Int32) (SX1 SR1 : zSt), fX4_worth zN (Int32.ofNat l) hour SX = some (v, SX1) ∧ fX12_gives zN (Int32.ofNat l) SR = some (v, SR1) ∧ zKeep [504] [503] SX SX1 ∧ zKeep [] [23] SR SR1 := by
  obtain ⟨ls, h1, h2, h3, h4, h5, h6⟩ := h
  have e61 : (61 : Int32) * Int32.ofNat l = Int32.ofNat (61 * l + 0) := by
    rw [Nat.add_zero, Int32.ofNat_mul]
    rfl
  obtain ⟨v, SX1, SR1, a1, a2, a3, a4⟩ := e_lines hl hour h3 h5 ls 0 0 0 zN zN (zI SX 504 0) SR h1 h2 h4 (by omega) (by omega) (by omega) (Nat.lt_of_le_of_lt h3 (by decide)) (Nat.lt_of_le_of_lt h5 (by decide)) (zI_self _ _ _) hf
  refine ⟨v, SX1, SR1, ?_, ?_, zK_t (zK_p _ _) a3, a4⟩
  · unfold fX4_worth
    rw [zL_def, show fX4_worth_b10 zN zN (Int32.ofNat l) hour 1 0 (zI SX 504 0) = _ from a1]
  · unfold fX12_gives
    rw [e61, show fX12_gives_b7 zN zN (Int32.ofNat l) 0 (Int32.ofNat (61 * l + 0)) SR = _ from a2]

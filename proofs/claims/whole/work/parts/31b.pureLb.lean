-- the rise
theorem zclamp (r : Int32) : fX12_held r (-20) 60 = some (zmx (-20) (zmn 60 r)) := by
  unfold fX12_held zmx zmn
  grind
theorem zclampb (r : Int32) : -20 ≤ zmx (-20) (zmn 60 r) ∧ zmx (-20) (zmn 60 r) ≤ 60 := by
  unfold zmx zmn
  grind
theorem e_riseBy {SX SR : zSt} (hRel : zRel SX SR) {l hour : Int32} (h0 : 0 ≤ l) (h1 : l < SX.1 505) : ∃ (v : Int32) (SX1 SR1 : zSt), fX4_riseBy zN l hour SX = some (v, SX1) ∧ fX12_riseBy zN l hour SR = some (v, SR1) ∧ (-20 ≤ v ∧ v ≤ 60) ∧ zKeep [504] [503] SX SX1 ∧ zKeep [] [22, 23] SR SR1 := by
  obtain ⟨hT, hP, hPe, hS, hL, hN, hB, hTr, hSh, hC, hG⟩ := id hRel
  obtain ⟨l1, l2, l3, c0, c1, c2, c3⟩ := id hL
  obtain ⟨l, hl, rfl⟩ := zo_exlt (k := 4) h0 (by decide) (Int32.lt_of_lt_of_le h1 l3)
  have hz : zLaw l (SX.2.1 502 l) (SX.2.1 (5010 + l)) (SR.2.1 17) (SR.2.1 18) (SR.2.1 19 l) (SR.2.1 20) (SR.2.1 21) := by
    have l4 : l = 0 ∨ l = 1 ∨ l = 2 ∨ l = 3 := by omega
    rcases l4 with rfl | rfl | rfl | rfl
    · exact c0 h1
    · exact c1 h1
    · exact c2 h1
    · exact c3 h1
  obtain ⟨v, TX1, TR1, e1, e2, k1, k2⟩ := e_law hl hour (SX := SX) (SR := zA (zA (zA (zA SR 22 0 hour) 22 1 (hour - hour / 24 * 24)) 22 2 (SR.1 26)) 22 3 (SR.1 27)) hz ⟨rfl, rfl, by rw [hS.1]; rfl, by rw [hS.2.1]; rfl⟩
  refine ⟨zmx (-20) (zmn 60 v), TX1, TR1, ?_, ?_, zclampb v, k1, ?_⟩
  · unfold fX4_riseBy
    have q : 0 ≤ Int32.ofNat l ∧ Int32.ofNat l < SX.1 505 := ⟨h0, h1⟩
    rw [e_has4, if_pos q, zB_some, if_neg zn10, e1, zB_some]
  · unfold fX12_riseBy
    rw [if_pos h0, if_pos (show zin 0 4 by decide), zL_def, if_pos (show zin 1 4 by decide), zL_def, if_pos (show zin 2 4 by decide), zL_def, if_pos (show zin 3 4 by decide), zL_def]
    refine (congrArg (fun o => zB o _) e2).trans ?_
    rw [zB_some, zclamp, zU_some]
  · refine zK_mono (I := [] ++ []) (A := [22, 22, 22, 22] ++ [23]) (zK_trans ?_ k2) (by simp) (by simp)
    exact zK_trans (A := [22]) (I := []) (I2 := []) (A2 := [22, 22, 22]) (zK_A _ _ _ _) (zK_trans (A := [22]) (I := []) (I2 := []) (A2 := [22, 22]) (zK_A _ _ _ _) (zK_trans (A := [22]) (I := []) (I2 := []) (A2 := [22]) (zK_A _ _ _ _) (zK_A _ _ _ _)))
theorem e_riseF {SX SR : zSt} (hRel : zRel SX SR) (hour : Int32) : ∃ (v : Int32) (SX1 SR1 : zSt), fX4_riseInForce zN hour SX = some (v, SX1) ∧ fX12_riseBy zN (SR.1 25) hour SR = some (v, SR1) ∧ (-20 ≤ v ∧ v ≤ 60) ∧ zKeep [504] [503] SX SX1 ∧ zKeep [] [22, 23] SR SR1 := by
  obtain ⟨hT, hP, hPe, hS, hL, hN, hB, hTr, hSh, hC, hG⟩ := id hRel
  obtain ⟨s1, s2, s3, s4, s5⟩ := id hS
  have hl := hL.1
  unfold fX4_riseInForce
  rw [e_has4, zB_some]
  by_cases c : 0 ≤ SX.1 508
  · have q : 0 ≤ SX.1 508 ∧ SX.1 508 < SX.1 505 := ⟨c, by rw [hl]; exact s5⟩
    obtain ⟨v, SX1, SR1, e1, e2, b, k1, k2⟩ := e_riseBy hRel (hour := hour) c (by rw [hl]; exact s5)
    refine ⟨v, SX1, SR1, ?_, by rw [← s3]; exact e2, b, k1, k2⟩
    rw [if_pos q, if_neg zn10, e1, zB_some]
  · refine ⟨0, SX, SR, ?_, ?_, by decide, zK_refl _, zK_refl _⟩
    · have q : ¬ (0 ≤ SX.1 508 ∧ SX.1 508 < SX.1 505) := fun h => c h.1
      rw [if_neg q, if_pos zn00]
    · unfold fX12_riseBy
      rw [if_neg (by rw [← s3]; exact c)]
theorem q_rise {SX SR : zSt} (hRel : zRel SX SR) (p1 p2 : Int32) : zEq (fX11_rise zN p1 p2 SX) (fX12_rise zN p1 p2 SR) := by
  obtain ⟨hT, hP, hPe, hS, hL, hN, hB, hTr, hSh, hC, hG⟩ := id hRel
  have l1 := hL.1
  have l2 : 0 ≤ SR.1 24 := l1 ▸ hL.2.1
  unfold fX11_rise fX12_rise
  rw [e_has4, e_isLaw _ _ l2, zB_some, zB_some, ← l1]
  by_cases c : 0 ≤ p1 ∧ p1 < SX.1 505
  · rw [if_pos c, if_neg zn10, if_neg zn10, e_isHourX, e_isHourR, zU_some, zU_some]
    by_cases d : 0 ≤ p2 ∧ p2 ≤ 47
    · obtain ⟨v, SX1, SR1, e1, e2, b, k1, k2⟩ := e_riseBy hRel (hour := p2) c.1 c.2
      rw [if_pos d, if_neg zn10, if_neg zn10, e1, e2]
      exact zEq_i rfl (zRel_T hRel (zTX_of k1 (by simp) (by simp)) (zTR_of k2 (by simp) (by simp)))
    · rw [if_neg d, if_pos zn00, if_pos zn00]
      exact zEq_i rfl hRel
  · rw [if_neg c, if_pos zn00, if_pos zn00]
    exact zEq_i rfl hRel

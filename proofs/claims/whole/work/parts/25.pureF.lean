theorem zRel_gen {SX SR SX1 SR1 : zSt} (hR : zRel SX SR) {I A I2 A2 : List Nat} (hK : zKeep I A SX SX1) (hK2 : zKeep I2 A2 SR SR1)
    (hI : ∀ k ∈ [1101, 1102, 904, 801, 506, 507, 508, 505, 602, 102, 103, 205, 206], k ∉ I) (hA : ∀ d ∈ [1100, 902, 903, 502, 5010, 5011, 5012, 5013, 600, 601, 100, 101, 1000, 1001, 1002, 202, 203, 204], d ∉ A)
    (hI2 : ∀ k ∈ [2, 3, 28, 26, 27, 25, 24, 37, 40, 42, 7, 8], k ∉ I2) (hA2 : ∀ d ∈ [1, 4, 5, 29, 30, 17, 18, 19, 20, 21, 38, 39, 41, 43, 44, 45, 9, 10, 11, 12, 35], d ∉ A2)
    (hP : rPlaces (SX.1 904) (SR.1 3) (SX1.2.1 901) (SX.2.1 902) (SX.2.1 903) (SR.2.1 4) (SR.2.1 5) (SR1.2.1 6)) (hPe : rPeople (SX.1 801) (SR.1 28) (SX1.2.1 800) (SR.2.1 29) (SR.2.1 30) (SR1.2.1 31) (SR1.2.1 32)) : zRel SX1 SR1 := by
  obtain ⟨hT, -, -, hS, hL, hN, hB, hTr, hSh, hC, hG⟩ := hR
  have i := fun k hk => hK.1 k (hI k hk)
  have a := fun d hd => hK.2.1 d (hA d hd)
  have i2 := fun k hk => hK2.1 k (hI2 k hk)
  have a2 := fun d hd => hK2.2.1 d (hA2 d hd)
  unfold zRel
  rw [i 1101 (by decide), i 1102 (by decide), i 904 (by decide), i 801 (by decide), i 506 (by decide), i 507 (by decide), i 508 (by decide), i 505 (by decide), i 602 (by decide), i 102 (by decide), i 103 (by decide), i 205 (by decide), i 206 (by decide),
    a 1100 (by decide), a 902 (by decide), a 903 (by decide), a 502 (by decide), a 5010 (by decide), a 5011 (by decide), a 5012 (by decide), a 5013 (by decide), a 600 (by decide), a 601 (by decide), a 100 (by decide), a 101 (by decide), a 1000 (by decide), a 1001 (by decide), a 1002 (by decide), a 202 (by decide), a 203 (by decide), a 204 (by decide), hK.2.2,
    i2 2 (by decide), i2 3 (by decide), i2 28 (by decide), i2 26 (by decide), i2 27 (by decide), i2 25 (by decide), i2 24 (by decide), i2 37 (by decide), i2 40 (by decide), i2 42 (by decide), i2 7 (by decide), i2 8 (by decide),
    a2 1 (by decide), a2 4 (by decide), a2 5 (by decide), a2 29 (by decide), a2 30 (by decide), a2 17 (by decide), a2 18 (by decide), a2 19 (by decide), a2 20 (by decide), a2 21 (by decide), a2 38 (by decide), a2 39 (by decide), a2 41 (by decide), a2 43 (by decide), a2 44 (by decide), a2 45 (by decide), a2 9 (by decide), a2 10 (by decide), a2 11 (by decide), a2 12 (by decide), a2 35 (by decide), hK2.2.2]
  exact ⟨hT, hP, hPe, hS, hL, hN, hB, hTr, hSh, hC, hG⟩
/-- only what nobody reads has changed -/
theorem zRel_tmp {SX SR SX1 SR1 : zSt} (hR : zRel SX SR) {I A I2 A2 : List Nat} (hK : zKeep I A SX SX1) (hK2 : zKeep I2 A2 SR SR1)
    (hI : ∀ k ∈ [1101, 1102, 904, 801, 506, 507, 508, 505, 602, 102, 103, 205, 206], k ∉ I) (hA : ∀ d ∈ [1100, 902, 903, 502, 5010, 5011, 5012, 5013, 600, 601, 100, 101, 1000, 1001, 1002, 202, 203, 204, 800, 901], d ∉ A)
    (hI2 : ∀ k ∈ [2, 3, 28, 26, 27, 25, 24, 37, 40, 42, 7, 8], k ∉ I2) (hA2 : ∀ d ∈ [1, 4, 5, 29, 30, 17, 18, 19, 20, 21, 38, 39, 41, 43, 44, 45, 9, 10, 11, 12, 35, 6, 31, 32], d ∉ A2) : zRel SX1 SR1 := by
  refine zRel_gen hR hK hK2 hI (fun d hd => hA d (by simp at hd ⊢; omega)) hI2 (fun d hd => hA2 d (by simp at hd ⊢; omega)) ?_ ?_
  · rw [hK.2.1 901 (hA 901 (by decide)), hK2.2.1 6 (hA2 6 (by decide))]; exact hR.2.1
  · rw [hK.2.1 800 (hA 800 (by decide)), hK2.2.1 31 (hA2 31 (by decide)), hK2.2.1 32 (hA2 32 (by decide))]; exact hR.2.2.1
theorem zRel_write {SX SR : zSt} (hR : zRel SX SR) {sl of0 at0 v : Int32} (h : rSlot (SR.1 3) (SR.1 28) (SX.2.1 902) sl of0 at0 v) : ∃ SX1 SR1 : zSt, fX1_write sl v SX = some SX1 ∧ fX12_lays of0 at0 v SR = some SR1 ∧ zRel SX1 SR1 ∧ SX1.1 = SX.1 ∧ SR1.1 = SR.1 := by
  obtain ⟨SX1, SR1, e1, e2, k1, k2, w1, w2⟩ := e_write hR.2.1 hR.2.2.1 h
  exact ⟨SX1, SR1, e1, e2, zRel_gen hR k1 k2 (by simp) (by decide) (by simp) (by decide) w1 w2, funext fun k => k1.1 k (by simp), funext fun k => k2.1 k (by simp)⟩
theorem zun1 {d : Int32} (h0 : 0 ≤ d) (h : ¬ 0 < d) : d = 0 := by grind
theorem zun2 {d : Int32} (h : 0 < d) : ¬ d = 0 := by grind
theorem zun3 {d u : Int32} (h : 0 < d) (h1 : d ≤ 40) (h2 : 0 ≤ u) (h3 : u ≤ 40) (h4 : d + u ≤ 40) : 0 ≤ d - 1 ∧ 0 ≤ u + 1 ∧ d - 1 + (u + 1) ≤ 40 ∧ d - 1 ≤ 40 ∧ u + 1 ≤ 40 ∧ d - 1 + (u + 1) = d + u ∧ d - 1 < 40 ∧ d - 1 < d + u := by
  refine ⟨?_, ?_, ?_, ?_, ?_, ?_, ?_, ?_⟩
  · grind
  · grind
  · grind
  · grind
  · grind
  · grind
  · grind
  · grind
theorem zun4 {d u : Int32} (h0 : 0 ≤ d) (h : ¬ u ≤ 0) (h1 : d ≤ 40) (h2 : 0 ≤ u) (h3 : u ≤ 40) (h4 : d + u ≤ 40) : 0 ≤ d + 1 ∧ 0 ≤ u - 1 ∧ d + 1 + (u - 1) ≤ 40 ∧ d + 1 ≤ 40 ∧ u - 1 ≤ 40 ∧ d + 1 + (u - 1) = d + u ∧ d < 40 ∧ d < d + u ∧ ¬ u = 0 := by
  refine ⟨?_, ?_, ?_, ?_, ?_, ?_, ?_, ?_, ?_⟩
  · grind
  · grind
  · grind
  · grind
  · grind
  · grind
  · grind
  · grind
  · grind
theorem zun5 {u : Int32} (h0 : 0 ≤ u) (h : u ≤ 0) : u = 0 := by grind
theorem q_undo {SX SR : zSt} (hRel : zRel SX SR) : zEq (fX11_undo SX) (fX12_undo SR) := by
  obtain ⟨hT, hP, hPe, hS, hL, hN, hB, hTr, hSh, hC, hG⟩ := id hRel
  obtain ⟨a1, a2, a3, a4, a5, a6, a7, a8⟩ := id hC
  unfold fX11_undo fX12_undo fX1_takeBack
  by_cases c : 0 < SX.1 205
  · obtain ⟨x1, x2, x3, x4, x5, x6, x7, x8⟩ := zun3 c a6 a4 a7 a5
    obtain ⟨b1, b2, b3, b4⟩ := a8 _ x1 x8
    have z : zin (SX.1 205 - 1) 40 := zin_of (k := 40) rfl (by decide) x1 x7
    have hR3 : zRel (zI (zI SX 205 (SX.1 205 - 1)) 206 (SX.1 206 + 1)) (zI (zI SR 7 (SX.1 205 - 1)) 8 (SX.1 206 + 1)) :=
      ⟨hT, hP, hPe, hS, hL, hN, hB, hTr, hSh, ⟨rfl, rfl, x1, x2, x3, x4, x5, fun i i0 i1 => a8 i i0 (by rw [← x6]; exact i1)⟩, hG⟩
    obtain ⟨SX1, SR1, e1, e2, r1, i1, i2⟩ := zRel_write hR3 (sl := SX.2.1 202 (Int32.toNatClampNeg (SX.1 205 - 1))) (of0 := SR.2.1 9 (Int32.toNatClampNeg (SX.1 205 - 1))) (at0 := SR.2.1 10 (Int32.toNatClampNeg (SX.1 205 - 1))) (v := SX.2.1 203 (Int32.toNatClampNeg (SX.1 205 - 1))) b3
    have hX : fX1_takeBack SX = some (1, SX1) := by
      unfold fX1_takeBack
      rw [if_pos c]
      refine (if_pos z).trans ?_
      refine (if_pos z).trans ?_
      refine (congrArg (fun o => zU o _) e1).trans ?_
      rfl
    unfold fX1_takeBack at hX
    rw [hX, if_neg (by rw [← a1]; exact zun2 c)]
    refine zEq_i (r := SX1.1 205) (r2 := SR1.1 7) (by rw [i1, i2]; rfl) r1 |> fun q => ?_
    have hR : (zL (zI SR 7 ((SR.1 7) - 1)) fun S2 => zL (zI S2 8 ((S2.1 8) + 1)) fun S3 => if zin (S3.1 7) 40 then if zin (S3.1 7) 40 then if zin (S3.1 7) 40 then zU (fX12_lays (S3.2.1 9 (Int32.toNatClampNeg (S3.1 7))) (S3.2.1 10 (Int32.toNatClampNeg (S3.1 7))) (S3.2.1 11 (Int32.toNatClampNeg (S3.1 7))) S3) fun S8 => some ((S8.1 7), S8) else none else none else none) = some (SR1.1 7, SR1) := by
      rw [← a1]
      have z2 : zin ((zI (zI SR 7 (SX.1 205 - 1)) 8 ((zI SR 7 (SX.1 205 - 1)).1 8 + 1)).1 7) 40 := z
      refine (if_pos z2).trans ?_
      refine (if_pos z2).trans ?_
      refine (if_pos z2).trans ?_
      have e3 : fX12_lays (SR.2.1 9 (Int32.toNatClampNeg (SX.1 205 - 1))) (SR.2.1 10 (Int32.toNatClampNeg (SX.1 205 - 1))) (SR.2.1 11 (Int32.toNatClampNeg (SX.1 205 - 1))) (zI (zI SR 7 (SX.1 205 - 1)) 8 (SR.1 8 + 1)) = some SR1 := by
        rw [← b1, ← a2]; exact e2
      refine (congrArg (fun o => zU o _) e3).trans ?_
      rfl
    rw [hR]
    exact q
  · have c2 := zun1 a3 c
    rw [if_neg c, if_pos (by rw [← a1]; exact c2)]
    exact zEq_i rfl hRel
theorem q_redo {SX SR : zSt} (hRel : zRel SX SR) : zEq (fX11_redo SX) (fX12_redo SR) := by
  obtain ⟨hT, hP, hPe, hS, hL, hN, hB, hTr, hSh, hC, hG⟩ := id hRel
  obtain ⟨a1, a2, a3, a4, a5, a6, a7, a8⟩ := id hC
  unfold fX11_redo fX12_redo fX1_makeAgain
  by_cases c : SX.1 206 ≤ 0
  · have c2 := zun5 a4 c
    rw [if_pos c, if_pos (by rw [← a2]; exact c2)]
    exact zEq_i rfl hRel
  · obtain ⟨x1, x2, x3, x4, x5, x6, x7, x8, x9⟩ := zun4 a3 c a6 a4 a7 a5
    obtain ⟨b1, b2, b3, b4⟩ := a8 _ a3 x8
    have z : zin (SX.1 205) 40 := zin_of (k := 40) rfl (by decide) a3 x7
    obtain ⟨SX1, SR1, e1, e2, r1, i1, i2⟩ := zRel_write hRel b4
    have e3 : fX12_lays (SR.2.1 9 (Int32.toNatClampNeg (SR.1 7))) (SR.2.1 10 (Int32.toNatClampNeg (SR.1 7))) (SR.2.1 12 (Int32.toNatClampNeg (SR.1 7))) SR = some SR1 := by
      rw [← a1, ← b2]; exact e2
    have z2 : zin (SR.1 7) 40 := by rw [← a1]; exact z
    obtain ⟨hT, hP, hPe, hS, hL, hN, hB, hTr, hSh, hC1, hG⟩ := id r1
    obtain ⟨d1, d2, d3, d4, d5, d6, d7, d8⟩ := id hC1
    rw [i1] at d1 d2
    rw [i2] at d1 d2
    rw [if_neg c, if_pos x7, if_pos z, if_pos z, e1, if_neg (by rw [← a2]; exact x9), if_pos z2, if_pos z2, if_pos z2, e3]
    refine zEq_i (SX := zI (zI SX1 205 (SX1.1 205 + 1)) 206 (SX1.1 206 - 1)) (SR := zI (zI SR1 7 (SR1.1 7 + 1)) 8 (SR1.1 8 - 1)) ?_ ⟨hT, hP, hPe, hS, hL, hN, hB, hTr, hSh, ⟨?_, ?_, ?_, ?_, ?_, ?_, ?_, fun i i0 i1' => d8 i i0 ?_⟩, hG⟩
    · show SX1.1 206 - 1 = SR1.1 8 - 1
      rw [i1, i2, a2]
    · show SX1.1 205 + 1 = SR1.1 7 + 1
      rw [i1, i2, a1]
    · show SX1.1 206 - 1 = SR1.1 8 - 1
      rw [i1, i2, a2]
    · show 0 ≤ SX1.1 205 + 1
      rw [i1]; exact x1
    · show 0 ≤ SX1.1 206 - 1
      rw [i1]; exact x2
    · show SX1.1 205 + 1 + (SX1.1 206 - 1) ≤ 40
      rw [i1]; exact x3
    · show SX1.1 205 + 1 ≤ 40
      rw [i1]; exact x4
    · show SX1.1 206 - 1 ≤ 40
      rw [i1]; exact x5
    · have q : i < SX1.1 205 + 1 + (SX1.1 206 - 1) := i1'
      rw [i1] at q ⊢
      rw [← x6]; exact q

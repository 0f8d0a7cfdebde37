-- law
theorem zRel_lw {SX SR SX1 SR1 : zSt} (hR : zRel SX SR) (k : zKeep [402, 505, 1101, 1102] [401, 502, 5010, 5011, 5012, 5013] SX SX1) (k2 : zKeep [2, 13, 14, 15, 16, 24] [17, 18, 19, 20, 21] SR SR1)
    (hT : rTape (SX1.1 1101) (SR1.1 2) (SX1.1 1102) (SX.2.1 1100) (SR.2.1 1)) (hS : rSky (SX.1 506) (SR.1 26) (SX.1 507) (SR.1 27) (SX.1 508) (SR.1 25) (SR1.1 24))
    (hL : rLaws (SX1.1 505) (SR1.1 24) (SX1.2.1 502) (SX1.2.1 5010) (SX1.2.1 5011) (SX1.2.1 5012) (SX1.2.1 5013) (SR1.2.1 17) (SR1.2.1 18) (SR1.2.1 19) (SR1.2.1 20) (SR1.2.1 21)) : zRel SX1 SR1 := by
  obtain ⟨-, hP, hPe, -, -, hN, hB, hTr, hSh, hC, hG⟩ := hR
  have i1 := fun j (hj : j ∉ [402, 505, 1101, 1102]) => k.1 j hj
  have a1 := fun d (hd : d ∉ [401, 502, 5010, 5011, 5012, 5013]) => k.2.1 d hd
  have i2 := fun j (hj : j ∉ [2, 13, 14, 15, 16, 24]) => k2.1 j hj
  have a2 := fun d (hd : d ∉ [17, 18, 19, 20, 21]) => k2.2.1 d hd
  unfold zRel
  rw [i1 801 (by decide), i1 506 (by decide), i1 507 (by decide), i1 508 (by decide), i1 904 (by decide), i1 602 (by decide), i1 102 (by decide), i1 103 (by decide), i1 205 (by decide), i1 206 (by decide),
    a1 1100 (by decide), a1 901 (by decide), a1 902 (by decide), a1 903 (by decide), a1 600 (by decide), a1 601 (by decide), a1 100 (by decide), a1 101 (by decide), a1 1000 (by decide), a1 1001 (by decide), a1 1002 (by decide), a1 202 (by decide), a1 203 (by decide), a1 204 (by decide), a1 800 (by decide), k.2.2,
    i2 28 (by decide), i2 26 (by decide), i2 27 (by decide), i2 25 (by decide), i2 3 (by decide), i2 37 (by decide), i2 40 (by decide), i2 42 (by decide), i2 7 (by decide), i2 8 (by decide),
    a2 1 (by decide), a2 4 (by decide), a2 5 (by decide), a2 6 (by decide), a2 29 (by decide), a2 30 (by decide), a2 31 (by decide), a2 32 (by decide), a2 38 (by decide), a2 39 (by decide), a2 41 (by decide), a2 43 (by decide), a2 44 (by decide), a2 45 (by decide), a2 9 (by decide), a2 10 (by decide), a2 11 (by decide), a2 12 (by decide), a2 35 (by decide), k2.2.2]
  exact ⟨hT, hP, hPe, hS, hL, hN, hB, hTr, hSh, hC, hG⟩
theorem nar_sh2 (n : Nat) (h : n < 251) : vp_nar .short (Int32.ofNat n) = Int32.ofNat n := (nar_short n h).2
theorem q_law {SX SR : zSt} (hRel : zRel SX SR) : zEq (fX11_law zN SX) (fX12_law zN SR) := by
  obtain ⟨hT, hP, hPe, hS, hL, hN, hB, hTr, hSh, hC, hG⟩ := id hRel
  obtain ⟨t, et, et2, ea, hz⟩ := zTz_of hT
  obtain ⟨l1, l2, l3, -⟩ := id hL
  obtain ⟨n, hn4, en⟩ := zo_exle (k := 4) l2 (by decide) l3
  have en2 : SR.1 24 = Int32.ofNat n := l1 ▸ en
  have hLs : zLws SX SR n := by
    have hL := hL
    rw [en] at hL
    exact zLws_of hn4 hL
  have ef : ∀ S : zSt, S.1 505 = Int32.ofNat n → fX4_isFull S = some (if n < 4 then 0 else 1, S) := fun S h => by
    have e4 : (Int32.ofNat n < 4) = (n < 4) := zo_lt (b := 4) (by omega) (by omega)
    unfold fX4_isFull
    rw [h, zi_of e4]
    split <;> rfl
  have e4 : (Int32.ofNat n = 4) = (n = 4) := zo_eq (b := 4) (by omega) (by omega)
  unfold fX11_law fX12_law
  rw [ef SX en, zB_some, en2, zi_of e4]
  by_cases q : n < 4
  · have z4 : zin 4 5 := by decide
    have k0 : zKeep [402] [] SX (zI SX 402 0) := zK_I _ _ _
    have kr : zKeep [13, 14, 15, 16] [19] SR (zA (zI (zI (zI (zI SR 13 0) 14 (-1)) 15 0) 16 0) 19 4 0) := zK_mono (zK_trans (zK_trans (zK_trans (zK_trans (zK_I SR 13 0) (zK_I _ 14 (-1))) (zK_I _ 15 0)) (zK_I _ 16 0)) (zK_A _ 19 4 0)) (by simp) (by simp)
    have g19 : ∀ i, (zA (zI (zI (zI (zI SR 13 0) 14 (-1)) 15 0) 16 0) 19 4 0).2.1 19 i = if i = 4 then 0 else SR.2.1 19 i := fun i => by rw [zA_get]; rfl
    have hS0 : zLS (SX.2.1 1100) (SR.2.1 1) t 0 [] (zI SX 402 0) (zA (zI (zI (zI (zI SR 13 0) 14 (-1)) 15 0) 16 0) 19 4 0) := by
      refine ⟨⟨⟨(k0.1 1101 (by simp)).trans et, (k0.1 1102 (by simp)).trans ea, rfl⟩, ⟨(kr.1 2 (by simp)).trans et2, rfl, rfl, kr.2.1 1 (by simp)⟩, rfl, rfl, rfl⟩, ?_, trivial⟩
      rw [g19, if_pos rfl]
      rfl
    have ini : fX12_readText zN (Int32.ofNat n) SR = zU (fX12_readLine zN (zA (zI (zI (zI (zI SR 13 0) 14 (-1)) 15 0) 16 0) 19 4 0)) fun S33 => fX12_readText_b31 zN zN (Int32.ofNat n) S33 := by
      unfold fX12_readText
      rw [zL_def, zL_def, zL_def, zL_def, if_pos z4, zL_def]
      rfl
    rw [if_pos q, if_pos zn00, if_neg (by omega), ini]
    unfold fX4_read fX3_read
    rw [zL_def]
    generalize zA (zI (zI (zI (zI SR 13 0) 14 (-1)) 15 0) 16 0) 19 4 0 = SR0 at kr g19 hS0 ⊢
    rcases e_text hz (Int32.ofNat n) t zN zN 0 0 [] _ _ (by omega) (by have := hz.1; unfold zN; omega) (by have := hz.1; unfold zN; omega) (Nat.le_refl _) (Nat.le_refl _) (Nat.le_refl _) (Nat.le_refl _) hS0 with ⟨ls, SX1, SR1, j1, j2, j3, jX, jY, jK, kX, kW⟩ | ⟨b, SX1, SR1, j1, j2, j3, j4, j5, kX, kW⟩
    · obtain ⟨p1, p2, p3⟩ := j3
      have kX0 : zKeep [402, 1102] [401] SX SX1 := zK_t (zK_mono k0 (by simp) (by simp)) kX
      have kR0 : zKeep [13, 14, 15, 16] [17, 18, 19, 20, 21] SR SR1 := zK_t (zK_mono kr (by simp) (by simp)) kW.1
      have h505 : SX1.1 505 = Int32.ofNat n := (kX0.1 505 (by simp)).trans en
      have zn4 : zin (Int32.ofNat n) 4 := zin_o q (by decide)
      rw [show fX3_read_b7 zN zN 0 (zI SX 402 0) = _ from j1, j2, zB_some, if_neg (Int32.not_lt.mpr (zo_0 (by omega))), ef SX1 h505, zB_some, if_pos q, if_pos zn00, h505, if_pos zn4, x_copyTo q jX p1.2.2.2.1, zU_some, show (zcA SX1 401 (5010 + n) 0 0 (zXt ls)).1 505 = Int32.ofNat n from h505, if_pos zn4, zL_def, zo_t (by omega), zL_def, show (zA (zcA SX1 401 (5010 + n) 0 0 (zXt ls)) 502 n (Int32.ofNat (zXt ls))).1 505 = Int32.ofNat n from h505, zo_s, zB_some, if_neg zn10]
      have kx3 : zKeep [505] [502, 5010 + n] SX1 (zI (zA (zcA SX1 401 (5010 + n) 0 0 (zXt ls)) 502 n (Int32.ofNat (zXt ls))) 505 (Int32.ofNat (n + 1))) := zK_mono (zK_trans (zK_trans (zK_cA SX1 401 (5010 + n) 0 0 (zXt ls)) (zK_A _ 502 n (Int32.ofNat (zXt ls)))) (zK_I _ 505 (Int32.ofNat (n + 1)))) (by simp) (by simp)
      have c505 : (zI (zA (zcA SX1 401 (5010 + n) 0 0 (zXt ls)) 502 n (Int32.ofNat (zXt ls))) 505 (Int32.ofNat (n + 1))).1 505 = Int32.ofNat (n + 1) := zI_self _ _ _
      have c502 : ∀ i, (zI (zA (zcA SX1 401 (5010 + n) 0 0 (zXt ls)) 502 n (Int32.ofNat (zXt ls))) 505 (Int32.ofNat (n + 1))).2.1 502 i = if i = n then Int32.ofNat (zXt ls) else SX1.2.1 502 i := fun i => by
        show (zA (zcA SX1 401 (5010 + n) 0 0 (zXt ls)) 502 n (Int32.ofNat (zXt ls))).2.1 502 i = _
        rw [zA_get, (zK_cA SX1 401 (5010 + n) 0 0 (zXt ls)).2.1 502 (by simp; omega)]
      have c501 : ∀ i, i < zXt ls → (zI (zA (zcA SX1 401 (5010 + n) 0 0 (zXt ls)) 502 n (Int32.ofNat (zXt ls))) 505 (Int32.ofNat (n + 1))).2.1 (5010 + n) i = SX1.2.1 401 i := fun i hi => by
        show (zA (zcA SX1 401 (5010 + n) 0 0 (zXt ls)) 502 n (Int32.ofNat (zXt ls))).2.1 (5010 + n) i = _
        rw [zA_oth _ _ _ _ (by omega), zcA_get _ hi]
      generalize zI (zA (zcA SX1 401 (5010 + n) 0 0 (zXt ls)) 502 n (Int32.ofNat (zXt ls))) 505 (Int32.ofNat (n + 1)) = SX3 at kx3 c505 c502 c501 ⊢
      -- the reference's copies
      unfold fX12_readText_b86 fX11_law_b45
      rw [zL_def, show (zI SR1 2 0).1 14 = -1 from p1.2.1.2.2.1, if_pos (show (-1 : Int32) < 0 by decide), x_clear, zU_some, c505]
      have k2 : zKeep [2] [] SR1 (zI SR1 2 0) := zK_I _ _ _
      obtain ⟨S2, a1, a2, a3, a4⟩ := r_copy1 q (show zYt ls ≤ 130 by omega) (zYt ls) zN 0 (zI SR1 2 0) (by omega) (by unfold zN; omega) (p1.2.2.2.2)
      have b19 : ∀ i, (zA S2 19 n (S2.2.1 19 4)).2.1 19 i = if i = n then Int32.ofNat ls.length else SR1.2.1 19 i := fun i => by
        rw [zA_get, a2.2.1 19 (by simp)]
        show (if i = n then SR1.2.1 19 4 else SR1.2.1 19 i) = _
        rw [p2]
      have kb : zKeep [] [19] S2 (zA S2 19 n (S2.2.1 19 4)) := zK_A _ _ _ _
      obtain ⟨S3, d1, d2, d3, d4⟩ := r_copy2 q (show ls.length ≤ 61 from jK) ls.length zN 0 (zA S2 19 n (S2.2.1 19 4)) (by omega) (by unfold zN; omega) (by rw [b19, if_pos rfl])
      rw [show fX12_readText_b105 zN zN (Int32.ofNat n) 0 (zI SR1 2 0) = _ from a1, show fX12_readText_b177 zN zN (Int32.ofNat n) 0 (zA S2 19 n (S2.2.1 19 4)) = _ from d1, zB_some, if_pos (show (-1 : Int32) < 0 by decide), zL_def]
      have kAll : zKeep [2, 13, 14, 15, 16] [17, 18, 19, 20, 21] SR S3 := zK_mono (zK_trans (zK_trans (zK_trans (zK_trans kR0 k2) a2) kb) d2) (by simp) (by simp)
      have k24 : zKeep [24] [] S3 (zI S3 24 (S3.1 24 + 1)) := zK_I _ _ _
      have e24 : (zI S3 24 (S3.1 24 + 1)).1 24 = Int32.ofNat (n + 1) := by rw [zI_self, kAll.1 24 (by simp), en2, zo_s]
      -- the rows of both sides, in the end
      have s17 : S3.2.1 17 = S2.2.1 17 := by rw [d2.2.1 17 (by simp), kb.2.1 17 (by simp)]
      have s18 : S3.2.1 18 = S2.2.1 18 := by rw [d2.2.1 18 (by simp), kb.2.1 18 (by simp)]
      have s19 : S3.2.1 19 = (zA S2 19 n (S2.2.1 19 4)).2.1 19 := d2.2.1 19 (by simp)
      have w20 : (zA S2 19 n (S2.2.1 19 4)).2.1 20 = SR1.2.1 20 := by rw [kb.2.1 20 (by simp), a2.2.1 20 (by simp)]; rfl
      have w21 : (zA S2 19 n (S2.2.1 19 4)).2.1 21 = SR1.2.1 21 := by rw [kb.2.1 21 (by simp), a2.2.1 21 (by simp)]; rfl
      have old : zLws SX3 S3 n := by
        refine zLws_old hLs (fun l hl => ⟨?_, ?_, ?_⟩) (fun i hi => ⟨?_, ?_⟩) (fun i hi => ⟨?_, ?_⟩)
        · rw [c502, if_neg (by omega), kX0.2.1 502 (by simp)]
        · rw [kx3.2.1 (5010 + l) (by simp; omega), kX0.2.1 (5010 + l) (by simp; omega)]
        · rw [s19, b19, if_neg (by omega), kW.2.2.1 l (by omega), g19, if_neg (by omega)]
        · rw [s17, (a4 i (Or.inl (by omega))).1]
          show SR1.2.1 17 i = _
          rw [(kW.2.1 i (by omega)).1, kr.2.1 17 (by simp)]
        · rw [s18, (a4 i (Or.inl (by omega))).2]
          show SR1.2.1 18 i = _
          rw [(kW.2.1 i (by omega)).2, kr.2.1 18 (by simp)]
        · rw [(d4 i (Or.inl (by omega))).1, w20, (kW.2.2.2 i (by omega)).1, kr.2.1 20 (by simp)]
        · rw [(d4 i (Or.inl (by omega))).2, w21, (kW.2.2.2 i (by omega)).2, kr.2.1 21 (by simp)]
      have new : zLaw n (SX3.2.1 502 n) (SX3.2.1 (5010 + n)) (S3.2.1 17) (S3.2.1 18) (S3.2.1 19 n) (S3.2.1 20) (S3.2.1 21) := by
        refine ⟨ls, ?_, by rw [c502, if_pos rfl], jX, by rw [s19, b19, if_pos rfl], jK, by omega⟩
        refine zLR_mv (N8 := vp_nar .byte) (N16 := vp_nar .short) (fun v hv => nar_cd hv) nar_sh2 ls 0 0 0 (by omega) (fun i _ i1 => c501 i (by omega)) (fun j _ j1 => ⟨?_, ?_⟩) (fun j _ j1 => ⟨?_, ?_⟩) p3
        · rw [s17, (a3 j (by omega) (by omega)).1]; rfl
        · rw [s18, (a3 j (by omega) (by omega)).2]; rfl
        · rw [(d3 j (by omega) (by omega)).1, w20]
        · rw [(d3 j (by omega) (by omega)).2, w21]
      have all : zLws (zI (zI SX3 1101 0) 1102 0) (zI S3 24 (S3.1 24 + 1)) (n + 1) := fun l hl => by
        show zLaw l (SX3.2.1 502 l) (SX3.2.1 (5010 + l)) (S3.2.1 17) (S3.2.1 18) (S3.2.1 19 l) (S3.2.1 20) (S3.2.1 21)
        by_cases w : l < n
        · exact old l w
        · rw [show l = n by omega]
          exact new
      have kXf : zKeep [402, 505, 1101, 1102] [401, 502, 5010, 5011, 5012, 5013] SX (zI (zI SX3 1101 0) 1102 0) := zK_mono (zK_trans (zK_trans kX0 kx3) (zK_clear SX3)) (by simp) (by
        intro d hd
        simp at hd ⊢
        omega)
      have kRf : zKeep [2, 13, 14, 15, 16, 24] [17, 18, 19, 20, 21] SR (zI S3 24 (S3.1 24 + 1)) := zK_mono (zK_trans kAll k24) (by simp) (by simp)
      refine zEq_i ?_ (zRel_lw hRel kXf kRf ?_ ?_ ?_)
      · rw [e24]
      · rw [zI_self, show (zI (zI SX3 1101 0) 1102 0).1 1101 = 0 from rfl, k24.1 2 (by simp), d2.1 2 (by simp), kb.1 2 (by simp), a2.1 2 (by simp), zI_self]
        exact rTape_0
      · rw [e24]
        obtain ⟨s1, s2, s3, s4, s5⟩ := hS
        rw [en2] at s5
        refine ⟨s1, s2, s3, s4, ?_⟩
        rw [← zo_s]
        obtain ⟨_, h1⟩ : ∃ x, x = SX.1 508 := ⟨_, rfl⟩
        exact Int32.lt_of_lt_of_le s5 (by rw [zo_s, zo_le (by omega) (by omega)]; omega)
      · rw [e24, show (zI (zI SX3 1101 0) 1102 0).1 505 = Int32.ofNat (n + 1) from c505]
        exact zLws_to (by omega) all
    · have kX0 : zKeep [402, 1102] [401] SX SX1 := zK_t (zK_mono k0 (by simp) (by simp)) kX
      have kR0 : zKeep [13, 14, 15, 16] [17, 18, 19, 20, 21] SR SR1 := zK_t (zK_mono kr (by simp) (by simp)) kW.1
      rw [show fX3_read_b7 zN zN 0 (zI SX 402 0) = _ from j1, j2, zB_some, if_pos (show (-1 : Int32) < 0 by decide), zB_some, if_pos zn00, j4]
      have n14 : ¬ Int32.ofNat b < 0 := Int32.not_lt.mpr (zo_0 (by have := hz.1; omega))
      unfold fX12_readText_b86 fX11_law_b45
      rw [zL_def, show (zI SR1 2 0).1 14 = Int32.ofNat b from j5, if_neg n14, x_clear, zU_some, zB_some, if_neg n14]
      have old : zLws (zI (zI SX1 1101 0) 1102 0) (zI SR1 2 0) n := by
        refine zLws_old hLs (fun l hl => ⟨?_, ?_, ?_⟩) (fun i hi => ⟨?_, ?_⟩) (fun i hi => ⟨?_, ?_⟩)
        · show SX1.2.1 502 l = _
          rw [kX0.2.1 502 (by simp)]
        · show SX1.2.1 (5010 + l) = _
          rw [kX0.2.1 (5010 + l) (by simp; omega)]
        · show SR1.2.1 19 l = _
          rw [kW.2.2.1 l (by omega), g19, if_neg (by omega)]
        · show SR1.2.1 17 i = _
          rw [(kW.2.1 i (by omega)).1, kr.2.1 17 (by simp)]
        · show SR1.2.1 18 i = _
          rw [(kW.2.1 i (by omega)).2, kr.2.1 18 (by simp)]
        · show SR1.2.1 20 i = _
          rw [(kW.2.2.2 i (by omega)).1, kr.2.1 20 (by simp)]
        · show SR1.2.1 21 i = _
          rw [(kW.2.2.2 i (by omega)).2, kr.2.1 21 (by simp)]
      have kXf : zKeep [402, 505, 1101, 1102] [401, 502, 5010, 5011, 5012, 5013] SX (zI (zI SX1 1101 0) 1102 0) := zK_mono (zK_trans kX0 (zK_clear SX1)) (by simp) (by simp)
      have kRf : zKeep [2, 13, 14, 15, 16, 24] [17, 18, 19, 20, 21] SR (zI SR1 2 0) := zK_mono (zK_trans kR0 (zK_I SR1 2 0)) (by simp) (by simp)
      have e24 : (zI SR1 2 0).1 24 = Int32.ofNat n := (kR0.1 24 (by simp)).trans en2
      refine zEq_i rfl (zRel_lw hRel kXf kRf ?_ ?_ ?_)
      · exact rTape_0
      · rw [e24, ← en2]
        exact hS
      · rw [e24, show (zI (zI SX1 1101 0) 1102 0).1 505 = Int32.ofNat n from (kX0.1 505 (by simp)).trans en]
        exact zLws_to hn4 old
  · rw [if_neg q, if_neg zn10, if_pos (by omega)]
    exact zEq_i rfl hRel

theorem zPl_old {p : Nat} (hp : p ≤ 6) {vals cx bx cm be ce vals2 cx2 bx2 cm2 be2 ce2 : Nat → Int32} (h : rPlaces (Int32.ofNat p) (Int32.ofNat p) vals cx bx cm be ce) (hv : ∀ j, j < 36 * p → vals2 j = vals j ∧ ce2 j = ce j) (hc : ∀ q, q < p → cx2 q = cx q ∧ bx2 q = bx q ∧ cm2 q = cm q ∧ be2 q = be q) : ∀ q, q < p →
    cx2 q = cm2 q ∧ 1 ≤ cx2 q ∧ cx2 q ≤ 12 ∧ bx2 q = be2 q ∧ 0 ≤ bx2 q ∧ bx2 q ≤ 9 ∧ ∀ i w : Int32, 0 ≤ i → i < cx2 q → 0 ≤ w → w ≤ 2 → vals2 (Int32.toNatClampNeg (36 * Int32.ofNat q + 3 * i + w)) = ce2 (Int32.toNatClampNeg (36 * Int32.ofNat q + 3 * i + w)) ∧ rVal w (vals2 (Int32.toNatClampNeg (36 * Int32.ofNat q + 3 * i + w))) := by
  intro q hq
  obtain ⟨a1, a2, a3, a4, a5, a6, a7⟩ := h.2.2.2 (Int32.ofNat q) (zo_0 (by omega)) (by rw [zo_lt (by omega) (by omega)]; exact hq)
  rw [zo_t (by omega)] at a1 a2 a3 a4 a5 a6 a7
  obtain ⟨c1, c2, c3, c4⟩ := hc q hq
  rw [c1, c2, c3, c4]
  refine ⟨a1, a2, a3, a4, a5, a6, fun i w i0 i1 w0 w2 => ?_⟩
  obtain ⟨x1, x2⟩ := a7 i w i0 i1 w0 w2
  obtain ⟨j, hj, rfl⟩ := zo_exle (k := 12) i0 (by decide) (Int32.le_trans (Int32.le_of_lt i1) a3)
  obtain ⟨v, hv2, rfl⟩ := zo_exle (k := 2) w0 (by decide) w2
  have jl : j < 12 := by
    have := Int32.lt_of_lt_of_le i1 a3
    exact (Eq.mp (zo_lt (b := 12) (by omega) (by omega)) this : j < 12)
  rw [zix, zo_t (by omega)] at x1 x2 ⊢
  rw [(hv _ (by omega)).1, (hv _ (by omega)).2]
  exact ⟨x1, x2⟩
theorem zRel_pl {SX SR SX1 SR1 : zSt} (hR : zRel SX SR) (k : zKeep [1101, 1102, 904] [901, 902, 903] SX SX1) (k2 : zKeep [2, 3, 13, 14] [4, 5, 6] SR SR1)
    (hT : rTape (SX1.1 1101) (SR1.1 2) (SX1.1 1102) (SX.2.1 1100) (SR.2.1 1)) (hP : rPlaces (SX1.1 904) (SR1.1 3) (SX1.2.1 901) (SX1.2.1 902) (SX1.2.1 903) (SR1.2.1 4) (SR1.2.1 5) (SR1.2.1 6))
    (hC : rChange (SX.1 205) (SR.1 7) (SX.1 206) (SR.1 8) (SR1.1 3) (SR.1 28) (SX1.2.1 902) (SX.2.1 202) (SX.2.1 203) (SX.2.1 204) (SR.2.1 9) (SR.2.1 10) (SR.2.1 11) (SR.2.1 12)) : zRel SX1 SR1 := by
  obtain ⟨-, -, hPe, hS, hL, hN, hB, hTr, hSh, -, hG⟩ := hR
  have i1 := fun j (hj : j ∉ [1101, 1102, 904]) => k.1 j hj
  have a1 := fun d (hd : d ∉ [901, 902, 903]) => k.2.1 d hd
  have i2 := fun j (hj : j ∉ [2, 3, 13, 14]) => k2.1 j hj
  have a2 := fun d (hd : d ∉ [4, 5, 6]) => k2.2.1 d hd
  unfold zRel
  rw [i1 801 (by decide), i1 506 (by decide), i1 507 (by decide), i1 508 (by decide), i1 505 (by decide), i1 602 (by decide), i1 102 (by decide), i1 103 (by decide), i1 205 (by decide), i1 206 (by decide),
    a1 1100 (by decide), a1 502 (by decide), a1 5010 (by decide), a1 5011 (by decide), a1 5012 (by decide), a1 5013 (by decide), a1 600 (by decide), a1 601 (by decide), a1 100 (by decide), a1 101 (by decide), a1 1000 (by decide), a1 1001 (by decide), a1 1002 (by decide), a1 202 (by decide), a1 203 (by decide), a1 204 (by decide), a1 800 (by decide), k.2.2,
    i2 28 (by decide), i2 26 (by decide), i2 27 (by decide), i2 25 (by decide), i2 24 (by decide), i2 37 (by decide), i2 40 (by decide), i2 42 (by decide), i2 7 (by decide), i2 8 (by decide),
    a2 1 (by decide), a2 29 (by decide), a2 30 (by decide), a2 31 (by decide), a2 32 (by decide), a2 17 (by decide), a2 18 (by decide), a2 19 (by decide), a2 20 (by decide), a2 21 (by decide), a2 38 (by decide), a2 39 (by decide), a2 41 (by decide), a2 43 (by decide), a2 44 (by decide), a2 45 (by decide), a2 9 (by decide), a2 10 (by decide), a2 11 (by decide), a2 12 (by decide), a2 35 (by decide), k2.2.2]
  exact ⟨hT, hP, hPe, hS, hL, hN, hB, hTr, hSh, hC, hG⟩
theorem x_clear (S : zSt) : fX10_clear S = some (zI (zI S 1101 0) 1102 0) := rfl
theorem zK_clear (S : zSt) : zKeep [1101, 1102] [] S (zI (zI S 1101 0) 1102 0) := zK_mono (zK_trans (zK_I S 1101 0) (zK_I _ 1102 0)) (by simp) (by simp)
theorem rTape_0 {f g : Nat → Int32} : rTape 0 0 0 f g := ⟨rfl, by decide, by decide, rfl, fun i i0 i1 => absurd i0 (Int32.not_le.mpr i1)⟩
theorem zTz_of {n m a : Int32} {f g : Nat → Int32} (h : rTape n m a f g) : ∃ t : Nat, n = Int32.ofNat t ∧ m = Int32.ofNat t ∧ a = 0 ∧ zTz f g t := by
  obtain ⟨rfl, h0, h1, rfl, h2⟩ := h
  obtain ⟨t, ht, rfl⟩ := zo_exle (k := 120) h0 (by decide) h1
  refine ⟨t, rfl, rfl, rfl, ht, fun i hi => ?_⟩
  have := h2 (Int32.ofNat i) (zo_0 (by omega)) (by rw [zo_lt (by omega) (by omega)]; exact hi)
  rwa [zo_t (by omega)] at this
theorem q_place {SX SR : zSt} (hRel : zRel SX SR) : zEq (fX11_place zN SX) (fX12_place zN SR) := by
  obtain ⟨hT, hP, hPe, hS, hL, hN, hB, hTr, hSh, hC, hG⟩ := id hRel
  obtain ⟨t, et, et2, ea, hz⟩ := zTz_of hT
  obtain ⟨c1, c2, c3, c4⟩ := id hP
  obtain ⟨p, hp6, ep⟩ := zo_exle (k := 6) c2 (by decide) c3
  have ep2 : SR.1 3 = Int32.ofNat p := c1 ▸ ep
  have ef : ∀ S : zSt, S.1 904 = Int32.ofNat p → fX8_isFull S = some (if p < 6 then 0 else 1, S) := fun S h => by
    have e6 : (Int32.ofNat p < 6) = (p < 6) := zo_lt (b := 6) (by omega) (by omega)
    unfold fX8_isFull
    rw [h, zi_of e6]
    split <;> rfl
  have e6 : (Int32.ofNat p = 6) = (p = 6) := zo_eq (b := 6) (by omega) (by omega)
  unfold fX11_place fX12_place
  rw [ef SX ep, ep2, zi_of e6, zB_some]
  by_cases q : p < 6
  · have z7 : zin (Int32.ofNat p) 7 := zin_o (by omega) (by decide)
    have hP' : rPlaces (Int32.ofNat p) (Int32.ofNat p) (SX.2.1 901) (SX.2.1 902) (SX.2.1 903) (SR.2.1 4) (SR.2.1 5) (SR.2.1 6) := by
      have hP := hP
      rw [ep, ep2] at hP
      exact hP
    unfold fX8_read
    rw [if_pos q, if_pos zn00, ef SX ep, zB_some, if_pos q, if_pos zn00, if_neg (by omega), zL_def, zL_def, show (zI (zI SR 13 0) 14 (-1)).1 3 = Int32.ofNat p from ep2, if_pos z7, zL_def, zo_t (by omega)]
    have KR : zKeep [13, 14] [4] SR (zA (zI (zI SR 13 0) 14 (-1)) 4 p 0) := zK_mono (zK_trans (zK_trans (zK_I SR 13 0) (zK_I _ 14 (-1))) (zK_A _ 4 p 0)) (by simp) (by simp)
    rcases e_place_loop hz q SX SR 12 zN zN 0 0 SX (zA (zI (zI SR 13 0) 14 (-1)) 4 p 0) (by omega) (by omega) (by decide) (by decide) (by omega) ⟨et, ea, rfl⟩ ⟨et2, by show (zI (zI SR 13 0) 14 (-1)).1 13 = _; rw [zI_ne _ _ (by decide)]; exact zI_self _ _ _, by show (zI (zI SR 13 0) 14 (-1)).1 14 = _; exact zI_self _ _ _, rfl⟩ ep ep2 (by rw [zA_get, if_pos rfl]; rfl) (zPX_refl _ _) ⟨zK_mono KR (by simp) (by simp), fun i hi => by rw [zA_get, if_neg hi]; rfl, fun j _ => by rw [zA_oth _ _ _ _ (by decide)]; rfl⟩ (fun i2 w hi => absurd hi (by omega)) with ⟨SX1, SR1, n, b, m1, m2, d1, d2, d3, k1, k2, d4, d5, d6, d7, d8, d9, d10, d11, d12, d13⟩ | ⟨SX1, SR1, qq, m1, m2, d1, d2, d3, k1, k2, d4, d5, d6⟩
    · rw [show fX8_read_b11 zN zN 0 SX = _ from m1, zB_some, if_neg zn10, m2]
      unfold fX11_place_b45
      rw [x_clear, zU_some, d4, zo_p (by omega)]
      refine zEq_i (by rw [Nat.add_sub_cancel]) (zRel_pl hRel (zK_mono (zK_trans k1 (zK_clear SX1)) (by simp) (by simp)) k2 ?_ ?_ ?_)
      · rw [d6, zI_self, show (zI (zI SX1 1101 0) 1102 0).1 1101 = 0 from by rw [zI_ne _ _ (by decide)]; exact zI_self _ _ _]
        exact rTape_0
      · show rPlaces (SX1.1 904) (SR1.1 3) (SX1.2.1 901) (SX1.2.1 902) (SX1.2.1 903) (SR1.2.1 4) (SR1.2.1 5) (SR1.2.1 6)
        rw [d4, d5]
        refine ⟨rfl, zo_0 (by omega), ?_, fun P P0 P1 => ?_⟩
        · show Int32.ofNat (p + 1) ≤ Int32.ofNat 6
          rw [zo_le (by omega) (by omega)]
          omega
        · obtain ⟨P', hP1, rfl⟩ := zo_exlt (k := p + 1) P0 (by omega) P1
          rw [zo_t (by omega)]
          by_cases w : P' = p
          · subst w
            rw [d7, d8, d9, d11, if_pos rfl, if_pos rfl, if_pos rfl]
            refine ⟨rfl, ?_, ?_, rfl, d3.1, d3.2, fun i v i0 i1 v0 v2 => ?_⟩
            · show Int32.ofNat 1 ≤ Int32.ofNat n
              rw [zo_le (by omega) (by omega)]
              exact d1
            · show Int32.ofNat n ≤ Int32.ofNat 12
              rw [zo_le (by omega) (by omega)]
              exact d2
            · obtain ⟨j, hj, rfl⟩ := zo_exlt (k := n) i0 (by omega) i1
              obtain ⟨v', hv', rfl⟩ := zo_exle (k := 2) v0 (by decide) v2
              rw [zix, zo_t (by omega)]
              exact d13 j v' hj (by omega)
          · exact zPl_old (by omega) hP' (fun j hj => d12 j hj) (fun q hq => ⟨by rw [d7, if_neg (by omega)], by rw [d8, if_neg (by omega)], d10 q (by omega), by rw [d11, if_neg (by omega)]⟩) P' (by omega)
      · rw [d5]
        refine rChange_grow hC (by rw [ep2, zo_le (by omega) (by omega)]; omega) (Int32.le_refl _) (fun P P0 P1 => ?_)
        rw [ep2] at P1
        obtain ⟨P', hP1, rfl⟩ := zo_exlt (k := p) P0 (by omega) P1
        show SX1.2.1 902 _ = _
        rw [zo_t (by omega), d7, if_neg (by omega)]
    · rw [show fX8_read_b11 zN zN 0 SX = _ from m1, zB_some, if_pos zn00, m2]
      unfold fX11_place_b45
      rw [x_clear, zU_some, d2]
      refine zEq_i rfl (zRel_pl hRel (zK_mono (zK_trans k1 (zK_clear SX1)) (by simp) (by simp)) (zK_mono k2 (by simp) (by simp)) ?_ ?_ ?_)
      · rw [d3, zI_self, show (zI (zI SX1 1101 0) 1102 0).1 1101 = 0 from by rw [zI_ne _ _ (by decide)]; exact zI_self _ _ _]
        exact rTape_0
      · show rPlaces (SX1.1 904) (SR1.1 3) (SX1.2.1 901) (SX1.2.1 902) (SX1.2.1 903) (SR1.2.1 4) (SR1.2.1 5) (SR1.2.1 6)
        rw [k1.1 904 (by simp), k2.1 3 (by simp), ep, ep2]
        refine ⟨rfl, zo_0 (by omega), by rw [← ep]; exact c3, fun P P0 P1 => ?_⟩
        obtain ⟨P', hP1, rfl⟩ := zo_exlt (k := p) P0 (by omega) P1
        rw [zo_t (by omega)]
        exact zPl_old (by omega) hP' (fun j hj => d6 j hj) (fun q hq => ⟨by rw [k1.2.1 902 (by simp)], by rw [k1.2.1 903 (by simp)], d4 q (by omega), d5 q (by omega)⟩) P' (by omega)
      · show rChange _ _ _ _ (SR1.1 3) _ (SX1.2.1 902) _ _ _ _ _ _ _
        rw [k2.1 3 (by simp), k1.2.1 902 (by simp)]
        exact hC
  · rw [if_neg q, if_neg zn10, if_pos (by omega)]
    exact zEq_i rfl hRel

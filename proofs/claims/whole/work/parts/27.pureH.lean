-- mend, set
theorem zMake {SX SR : zSt} (hRel : zRel SX SR) {s o t w v : Int32} (hw : rSlot (SR.1 3) (SR.1 28) (SX.2.1 902) s o t w) (hv : rSlot (SR.1 3) (SR.1 28) (SX.2.1 902) s o t v) :
    zEq (fX1_make_b30 s v w SX) (if w = v then (some (w, SR)) else (zL (zI SR 8 0) fun S31 => if (S31.1 7) = 40 then (fX12_changes_b34 zN zN o t v w 1 S31) else (fX12_changes_b121 zN o t v w S31))) := by
  unfold fX1_make_b30
  by_cases c : w = v
  · rw [if_pos c, if_pos c]; exact zEq_i rfl hRel
  · rw [if_neg c, if_neg c]
    obtain ⟨SX1, SR1, e1, e2, r1, k1, k2, k3⟩ := zRec hRel hw hv
    have hv1 : rSlot (SR1.1 3) (SR1.1 28) (SX1.2.1 902) s o t v := by rw [k1, k2, k3]; exact hv
    obtain ⟨SX2, SR2, f1, f2, r2, -, -⟩ := zRel_write r1 hv1
    rw [e1, zU_some, f1, zU_some, zL_def, e2, f2]
    exact zEq_i rfl r2
theorem zce1 {p n : Int32} (h : p < n) (h2 : n ≤ 6) : p < 7 := by grind
theorem zce2 {i c : Int32} (h : 1 ≤ c) (h2 : c ≤ 12) : (0 ≤ i ∧ i ≤ c - 1) ↔ (0 ≤ i ∧ i < c) := by
  constructor
  · rintro ⟨a, b⟩
    refine ⟨a, ?_⟩
    grind
  · rintro ⟨a, b⟩
    refine ⟨a, ?_⟩
    grind
theorem e_hasCell {SX SR : zSt} (hP : rPlaces (SX.1 904) (SR.1 3) (SX.2.1 901) (SX.2.1 902) (SX.2.1 903) (SR.2.1 4) (SR.2.1 5) (SR.2.1 6)) (p i : Int32) : fX8_hasCell p i SX = some (if (0 ≤ p ∧ p < SR.1 3) ∧ 0 ≤ i ∧ i < SX.2.1 902 (Int32.toNatClampNeg p) then 1 else 0, SX) ∧ fX12_isCell p i SR = some (if (0 ≤ p ∧ p < SR.1 3) ∧ 0 ≤ i ∧ i < SX.2.1 902 (Int32.toNatClampNeg p) then 1 else 0, SR) := by
  obtain ⟨b1, b2, b3, b4⟩ := hP
  unfold fX8_hasCell fX12_isCell
  rw [e_has8, e_isPlace _ _ (b1 ▸ b2), b1]
  by_cases h : 0 ≤ p ∧ p < SR.1 3
  · have h2 : p < SX.1 904 := by rw [b1]; exact h.2
    obtain ⟨c1, c2, c3, -⟩ := b4 p h.1 h2
    have z6 : zin p 6 := zin_of (k := 6) rfl (by decide) h.1 (zch7 h2 b3)
    have z7 : zin p 7 := zin_of (k := 7) rfl (by decide) h.1 (zce1 h2 b3)
    simp only [h, and_self, if_true, true_and, zB_some, one_ne, if_false, if_pos z6, if_pos z7, e_in, zU_some, ← c1, zce2 c2 c3]
    constructor
    · by_cases i0 : i < 0
      · rw [if_pos i0, if_neg (fun z => zar5 z.1 i0)]
      · rw [if_neg i0]
        by_cases i1 : SX.2.1 902 (Int32.toNatClampNeg p) ≤ i
        · rw [if_pos i1, if_neg (fun z => zar6 z.2 i1)]
        · rw [if_neg i1, if_pos ⟨Int32.not_lt.mp i0, Int32.not_le.mp i1⟩]
    · by_cases g : 0 ≤ i ∧ i < SX.2.1 902 (Int32.toNatClampNeg p)
      · simp only [g, and_self, if_true, one_ne, if_false]
      · simp only [g, if_false, if_true]
  · simp only [h, false_and, if_false, zB_some, if_true, and_self]
theorem zsl1 {p i w : Int32} : (p * 12 + i) * 3 + w = 36 * p + 3 * i + w := by grind
theorem zval {v : Int32} (h : 0 ≤ v ∧ v ≤ 30) : rVal 0 v ∧ rVal 1 v := ⟨⟨h.1, h.2, fun z => absurd z (by decide)⟩, ⟨h.1, h.2, fun z => absurd z (by decide)⟩⟩
theorem zval2 {v : Int32} (h : 0 ≤ v ∧ v ≤ 9) : rVal 2 v := ⟨h.1, Int32.le_trans h.2 (by decide), fun _ => h.2⟩
theorem zval3 {w v : Int32} (w0 : 0 ≤ w) (w1 : w ≤ 2) (h : 0 ≤ v ∧ v ≤ (if w = 2 then 9 else 30)) : rVal w v := by
  by_cases c : w = 2
  · rw [if_pos c] at h; subst c; exact zval2 h
  · rw [if_neg c] at h; exact ⟨h.1, h.2, fun z => absurd z c⟩
theorem q_mend {SX SR : zSt} (hRel : zRel SX SR) (p1 p2 p3 p4 : Int32) : zEq (fX11_mend p1 p2 p3 p4 SX) (fX12_mend zN p1 p2 p3 p4 SR) := by
  obtain ⟨hT, hP, hPe, hS, hL, hN, hB, hTr, hSh, hC, hG⟩ := id hRel
  obtain ⟨b1, b2, b3, b4⟩ := id hP
  obtain ⟨eX, eR⟩ := e_hasCell hP p1 p2
  have eM : fX8_mostOf p3 = some (if p3 = 2 then 9 else 30) := by unfold fX8_mostOf; split <;> rfl
  unfold fX11_mend fX12_mend fX8_slot
  rw [eX, eR]
  simp only [e_isWithin, e_in, zU_some, zB_some, eM]
  by_cases h : (0 ≤ p1 ∧ p1 < SR.1 3) ∧ 0 ≤ p2 ∧ p2 < SX.2.1 902 (Int32.toNatClampNeg p1)
  · by_cases g : 0 ≤ p3 ∧ p3 ≤ 2
    · have h2 : p1 < SX.1 904 := by rw [b1]; exact h.1.2
      obtain ⟨c1, c2, c3, -, -, -, c7⟩ := b4 p1 h.1.1 h2
      have eR2 : (if p3 = 2 then fX12_mend_b33 zN p1 p2 p3 p4 p4 0 9 SR else fX12_mend_b33 zN p1 p2 p3 p4 p4 0 30 SR) = fX12_mend_b33 zN p1 p2 p3 p4 p4 0 (if p3 = 2 then 9 else 30) SR := by
        by_cases c : p3 = 2
        · rw [if_pos c, if_pos c]
        · rw [if_neg c, if_neg c]
      simp only [h, g, and_self, if_true, one_ne, if_false]
      rw [eR2]
      unfold fX12_mend_b33
      simp only [e_in, zU_some]
      by_cases k : 0 ≤ p4 ∧ p4 ≤ (if p3 = 2 then 9 else 30)
      · simp only [k, and_self, if_true, one_ne, if_false]
        rw [zsl1]
        obtain ⟨n0, n1⟩ := zch1 h.1.1 (zch7 h2 b3) h.2.1 (zch6 h.2.2 c3) g.1 g.2
        have z1 : zin (36 * p1 + 3 * p2 + p3) 216 := zin_of (k := 216) rfl (by decide) n0 n1
        have z2 : zin (36 * p1 + 3 * p2 + p3) 252 := zin_of (k := 252) rfl (by decide) n0 (zch3 n1)
        obtain ⟨v1, v2⟩ := c7 p2 p3 h.2.1 h.2.2 g.1 g.2
        have hv : rSlot (SR.1 3) (SR.1 28) (SX.2.1 902) (36 * p1 + 3 * p2 + p3) 0 (36 * p1 + 3 * p2 + p3) p4 := Or.inl ⟨p1, p2, p3, h.1.1, h.1.2, h.2.1, h.2.2, g.1, g.2, rfl, rfl, rfl, zval3 g.1 g.2 k⟩
        have hw : rSlot (SR.1 3) (SR.1 28) (SX.2.1 902) (36 * p1 + 3 * p2 + p3) 0 (36 * p1 + 3 * p2 + p3) (SX.2.1 901 (Int32.toNatClampNeg (36 * p1 + 3 * p2 + p3))) := Or.inl ⟨p1, p2, p3, h.1.1, h.1.2, h.2.1, h.2.2, g.1, g.2, rfl, rfl, rfl, v2⟩
        have e := zMake hRel hw hv
        obtain ⟨r, SX1, SR1, e1, e2, e3⟩ := e
        unfold fX1_make fX8_valueAt fX12_changes fX12_valueAt
        rw [if_neg (zch5 n1), if_neg (zar5 n0), if_neg (zch5 n1), if_pos z1, zB_some, e1, zB_some, if_pos rfl, if_pos z2, zB_some, ← v1, e2, zB_some]
        exact zEq_i rfl e3
      · simp only [k, if_false, if_true]
        exact zEq_i rfl hRel
    · simp only [h, g, and_self, if_true, one_ne, if_false]
      exact zEq_i rfl hRel
  · simp only [h, if_false, if_true]
    exact zEq_i rfl hRel
theorem zse1 {w : Int32} (h : ¬ (0 ≤ w ∧ w ≤ 1)) : ¬ w = 0 ∧ ¬ w = 1 := by grind
theorem zse2 {w : Int32} (h : 0 ≤ w ∧ w ≤ 1) (c : ¬ w = 0) : w = 1 := by grind
theorem q_set {SX SR : zSt} (hRel : zRel SX SR) (p1 p2 p3 : Int32) : zEq (fX11_set p1 p2 p3 SX) (fX12_set zN p1 p2 p3 SR) := by
  obtain ⟨hT, hP, hPe, hS, hL, hN, hB, hTr, hSh, hC, hG⟩ := id hRel
  obtain ⟨b1, b2, b3, b4⟩ := id hPe
  unfold fX11_set fX12_set
  rw [e_has7, e_isPerson _ _ (b1 ▸ b2), b1]
  simp only [e_isWithin, e_in, zU_some, zB_some]
  by_cases h : 0 ≤ p1 ∧ p1 < SR.1 28
  · have h2 : p1 < SX.1 801 := by rw [b1]; exact h.2
    have h8 := zar3 h2 b3
    obtain ⟨d0, d1, d2, d3⟩ := b4 p1 h.1 h2
    simp only [h, and_self, if_true, one_ne, if_false]
    have z8 : zin p1 8 := zin_of (k := 8) rfl (by decide) h.1 h8
    by_cases g : 0 ≤ p2 ∧ p2 ≤ 1
    · simp only [g, and_self, if_true, one_ne, if_false]
      unfold fX11_set_b31 fX11_set_b46 fX7_slot
      simp only [e_isWithin, zU_some]
      by_cases c : p2 = 0
      · simp only [if_pos c]
        by_cases k : 0 ≤ p3 ∧ p3 ≤ 9
        · simp only [k, and_self, if_true, one_ne, if_false]
          obtain ⟨g0, g1⟩ := zch4 (k := 2) h.1 h8 (by decide) (by decide)
          have gg := zpe3 (w := 2) h.1 h8 (by decide) (by decide)
          have z32 : zin (p1 * 4 + 2) 32 := zin_of (k := 32) rfl (by decide) gg.1 gg.2
          have hv : rSlot (SR.1 3) (SR.1 28) (SX.2.1 902) (216 + p1 * 4 + 2) 1 p1 p3 := Or.inr ⟨h.1, h.2, Or.inl ⟨rfl, rfl, k.1, k.2⟩⟩
          have hw : rSlot (SR.1 3) (SR.1 28) (SX.2.1 902) (216 + p1 * 4 + 2) 1 p1 (SX.2.1 800 (Int32.toNatClampNeg (p1 * 4 + 2))) := Or.inr ⟨h.1, h.2, Or.inl ⟨rfl, rfl, by rw [d2.1]; exact d2.2.1, by rw [d2.1]; exact d2.2.2⟩⟩
          obtain ⟨r, SX1, SR1, e1, e2, e3⟩ := zMake hRel hw hv
          unfold fX1_make fX7_valueAt fX12_changes fX12_valueAt
          rw [if_pos g0, g1, if_neg (zar5 gg.1), if_neg (zar6 gg.2), if_pos z32, zB_some, e1, zB_some, if_neg (by decide), if_pos rfl, if_pos z8, zB_some, ← d2.1, e2, zB_some]
          exact zEq_i rfl e3
        · simp only [k, if_false, if_true]
          exact zEq_i rfl hRel
      · have c1 := zse2 g c
        simp only [if_neg c, if_pos c1]
        by_cases k : 0 ≤ p3 ∧ p3 ≤ 40
        · simp only [k, and_self, if_true, one_ne, if_false]
          obtain ⟨g0, g1⟩ := zch4 (k := 3) h.1 h8 (by decide) (by decide)
          have gg := zpe3 (w := 3) h.1 h8 (by decide) (by decide)
          have z32 : zin (p1 * 4 + 3) 32 := zin_of (k := 32) rfl (by decide) gg.1 gg.2
          have hv : rSlot (SR.1 3) (SR.1 28) (SX.2.1 902) (216 + p1 * 4 + 3) 2 p1 p3 := Or.inr ⟨h.1, h.2, Or.inr ⟨rfl, rfl, k.1, k.2⟩⟩
          have hw : rSlot (SR.1 3) (SR.1 28) (SX.2.1 902) (216 + p1 * 4 + 3) 2 p1 (SX.2.1 800 (Int32.toNatClampNeg (p1 * 4 + 3))) := Or.inr ⟨h.1, h.2, Or.inr ⟨rfl, rfl, by rw [d3.1]; exact d3.2.1, by rw [d3.1]; exact d3.2.2⟩⟩
          obtain ⟨r, SX1, SR1, e1, e2, e3⟩ := zMake hRel hw hv
          unfold fX1_make fX7_valueAt fX12_changes fX12_valueAt
          rw [if_pos g0, g1, if_neg (zar5 gg.1), if_neg (zar6 gg.2), if_pos z32, zB_some, e1, zB_some, if_neg (by decide), if_neg (by decide), if_pos z8, zB_some, ← d3.1, e2, zB_some]
          exact zEq_i rfl e3
        · simp only [k, if_false, if_true]
          exact zEq_i rfl hRel
    · obtain ⟨c0, c1⟩ := zse1 g
      simp only [g, c0, c1, if_false, if_true]
      exact zEq_i rfl hRel
  · simp only [h, if_false, if_true]
    exact zEq_i rfl hRel

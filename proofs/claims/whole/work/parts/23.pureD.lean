-- person; what is written by a change
theorem e_personR (a b : Int32) (S : zSt) (h : ¬ (0 ≤ a ∧ 0 ≤ b ∧ (30 ≤ a / 100 ∧ a / 100 ≤ 120) ∧ (10 ≤ a - a / 100 * 100 ∧ a - a / 100 * 100 ≤ 22) ∧ b / 100 ≤ 9 ∧ b - b / 100 * 100 ≤ 40)) : fX12_person a b S = some (-1, S) := by
  unfold fX12_person
  by_cases c1 : a < 0
  · rw [if_pos c1]
  rw [if_neg c1]
  by_cases c2 : b < 0
  · rw [if_pos c2]
  rw [if_neg c2]
  simp only [e_in, zU_some]
  by_cases c3 : 30 ≤ a / 100 ∧ a / 100 ≤ 120
  · by_cases c4 : 10 ≤ a - a / 100 * 100 ∧ a - a / 100 * 100 ≤ 22
    · by_cases c5 : 9 < b / 100
      · simp only [c3, c4, c5, and_self, if_true, one_ne, if_false]
      · by_cases c6 : b - b / 100 * 100 ≤ 40
        · exact absurd ⟨Int32.not_lt.mp c1, Int32.not_lt.mp c2, c3, c4, Int32.not_lt.mp c5, c6⟩ h
        · simp only [c3, c4, c5, c6, and_self, if_true, one_ne, if_false]
    · simp only [c3, c4, and_self, if_true, one_ne, if_false]
  · simp only [c3, if_false, if_true]
theorem rChange_grow {d d2 u u2 np np2 n n2 : Int32} {cx cx2 sl bx ax of0 at0 br ar : Nat → Int32} (h : rChange d d2 u u2 np n cx sl bx ax of0 at0 br ar) (h1 : np ≤ np2) (h2 : n ≤ n2) (h3 : ∀ p : Int32, 0 ≤ p → p < np → cx2 (Int32.toNatClampNeg p) = cx (Int32.toNatClampNeg p)) : rChange d d2 u u2 np2 n2 cx2 sl bx ax of0 at0 br ar := by
  obtain ⟨a1, a2, a3, a4, a5, a6, a7, a8⟩ := h
  have key : ∀ s o t v : Int32, rSlot np n cx s o t v → rSlot np2 n2 cx2 s o t v := fun s o t v z => by
    rcases z with ⟨p, i, w, b1, b2, b3, b4, b5⟩ | ⟨b1, b2, b3⟩
    · exact Or.inl ⟨p, i, w, b1, Int32.lt_of_lt_of_le b2 h1, b3, by rw [h3 p b1 b2]; exact b4, b5⟩
    · exact Or.inr ⟨b1, Int32.lt_of_lt_of_le b2 h2, b3⟩
  exact ⟨a1, a2, a3, a4, a5, a6, a7, fun i i0 i1 => by
    obtain ⟨c1, c2, c3, c4⟩ := a8 i i0 i1
    exact ⟨c1, c2, key _ _ _ _ c3, key _ _ _ _ c4⟩⟩
theorem zpe12 {n : Int32} (h0 : 0 ≤ n) (h2 : n < 8) : n ≤ n + 1 := by grind
theorem q_person {SX SR : zSt} (hRel : zRel SX SR) (p1 p2 : Int32) : zEq (fX11_person p1 p2 SX) (fX12_person p1 p2 SR) := by
  obtain ⟨hT, hP, hPe, hS, hL, hN, hB, hTr, hSh, hC, hG⟩ := id hRel
  obtain ⟨b1, b2, b3, b4⟩ := id hPe
  unfold fX11_person
  simp only [e_mayBe, zB_some]
  by_cases h : 0 ≤ p1 ∧ 0 ≤ p2 ∧ (30 ≤ p1 / 100 ∧ p1 / 100 ≤ 120) ∧ (10 ≤ p1 - p1 / 100 * 100 ∧ p1 - p1 / 100 * 100 ≤ 22) ∧ p2 / 100 ≤ 9 ∧ p2 - p2 / 100 * 100 ≤ 40
  · obtain ⟨h1, h2, h3, h4, h5, h6⟩ := id h
    have n1 := zar5 h1
    have n2 := zar5 h2
    have n5 := zar5 h5
    rw [if_pos h, if_neg (by decide)]
    unfold fX12_person
    rw [if_neg n1, if_neg n2]
    simp only [e_in, zU_some]
    rw [if_pos h3, if_neg (by decide), if_pos h4, if_neg (by decide), if_neg n5, if_pos h6]
    by_cases f : SX.1 801 < 8
    · have f2 : ¬ SR.1 28 = 8 := by rw [← b1]; exact zpe2 f
      have hz : zin (SR.1 28) 8 := by rw [← b1]; exact zin_of (k := 8) rfl (by decide) b2 f
      have g0 := zpe3 (w := 0) b2 f (by decide) (by decide)
      have g1 := zpe3 (w := 1) b2 f (by decide) (by decide)
      have g2 := zpe3 (w := 2) b2 f (by decide) (by decide)
      have g3 := zpe3 (w := 3) b2 f (by decide) (by decide)
      have eX : fX7_add p1 p2 SX = some (SX.1 801, zI (zA (zA (zA (zA SX 800 (Int32.toNatClampNeg (SX.1 801 * 4 + 0)) (p1 / 100)) 800 (Int32.toNatClampNeg (SX.1 801 * 4 + 1)) (p1 - p1 / 100 * 100)) 800 (Int32.toNatClampNeg (SX.1 801 * 4 + 2)) (p2 / 100)) 800 (Int32.toNatClampNeg (SX.1 801 * 4 + 3)) (p2 - p2 / 100 * 100)) 801 (SX.1 801 + 1)) := by
        unfold fX7_add fX7_slot
        simp only [zU_some, e_putV _ _ _ g0, e_putV _ _ _ g1, e_putV _ _ _ g2, e_putV _ _ _ g3, zL_def, zA_1, zI_self, zup1]
      have eR : (if SR.1 28 = 8 then (some ((-3 : Int32), SR)) else (if zin (SR.1 28) 8 then zL (zA SR 29 (Int32.toNatClampNeg (SR.1 28)) (p1 / 100)) fun S15 => if zin (S15.1 28) 8 then zL (zA S15 30 (Int32.toNatClampNeg (S15.1 28)) (p1 - p1 / 100 * 100)) fun S17 => if zin (S17.1 28) 8 then zL (zA S17 31 (Int32.toNatClampNeg (S17.1 28)) (p2 / 100)) fun S19 => if zin (S19.1 28) 8 then zL (zA S19 32 (Int32.toNatClampNeg (S19.1 28)) (p2 - p2 / 100 * 100)) fun S21 => zL (zI S21 28 ((S21.1 28) + 1)) fun S22 => some (((S22.1 28) - 1), S22) else none else none else none else none)) = some (SR.1 28, zI (zA (zA (zA (zA SR 29 (Int32.toNatClampNeg (SR.1 28)) (p1 / 100)) 30 (Int32.toNatClampNeg (SR.1 28)) (p1 - p1 / 100 * 100)) 31 (Int32.toNatClampNeg (SR.1 28)) (p2 / 100)) 32 (Int32.toNatClampNeg (SR.1 28)) (p2 - p2 / 100 * 100)) 28 (SR.1 28 + 1)) := by
        rw [if_neg f2, if_pos hz]
        refine (if_pos hz).trans ?_
        refine (if_pos hz).trans ?_
        refine (if_pos hz).trans ?_
        show some (_ , _) = some (_ , _)
        rw [zI_self]
        show some (SR.1 28 + 1 - 1, _) = _
        rw [zup1]
        rfl
      rw [eR]
      simp only [e_isFull7, f, if_true, zB_some, eX]
      have q2 := zpe10 h2
      refine zEq_i b1 ⟨hT, hP, ?_, hS, hL, hN, hB, hTr, hSh, ?_, hG⟩
      · show rPeople (SX.1 801 + 1) (SR.1 28 + 1) (upd (upd (upd (upd (SX.2.1 800) (Int32.toNatClampNeg (SX.1 801 * 4 + 0)) (p1 / 100)) (Int32.toNatClampNeg (SX.1 801 * 4 + 1)) (p1 - p1 / 100 * 100)) (Int32.toNatClampNeg (SX.1 801 * 4 + 2)) (p2 / 100)) (Int32.toNatClampNeg (SX.1 801 * 4 + 3)) (p2 - p2 / 100 * 100))
          (upd (SR.2.1 29) (Int32.toNatClampNeg (SR.1 28)) (p1 / 100)) (upd (SR.2.1 30) (Int32.toNatClampNeg (SR.1 28)) (p1 - p1 / 100 * 100)) (upd (SR.2.1 31) (Int32.toNatClampNeg (SR.1 28)) (p2 / 100)) (upd (SR.2.1 32) (Int32.toNatClampNeg (SR.1 28)) (p2 - p2 / 100 * 100))
        rw [← b1]
        refine ⟨rfl, (zpe8 b2 f).1, (zpe8 b2 f).2, fun q q0 q1 => ?_⟩
        have q8 := zpe9 b2 f q1
        have r0 := (zpe3 (w := 0) q0 q8 (by decide) (by decide)).1
        have r1 := (zpe3 (w := 1) q0 q8 (by decide) (by decide)).1
        have r2 := (zpe3 (w := 2) q0 q8 (by decide) (by decide)).1
        have r3 := (zpe3 (w := 3) q0 q8 (by decide) (by decide)).1
        simp only [zupd_at g0.1 r0, zupd_at g0.1 r1, zupd_at g0.1 r2, zupd_at g0.1 r3, zupd_at g1.1 r0, zupd_at g1.1 r1, zupd_at g1.1 r2, zupd_at g1.1 r3, zupd_at g2.1 r0, zupd_at g2.1 r1, zupd_at g2.1 r2, zupd_at g2.1 r3, zupd_at g3.1 r0, zupd_at g3.1 r1, zupd_at g3.1 r2, zupd_at g3.1 r3, zupd_at b2 q0]
        by_cases c : q = SX.1 801
        · subst c
          have e01 : ¬ SX.1 801 * 4 + 0 = SX.1 801 * 4 + 1 := zpe6 (q := 0) (by decide)
          have e02 : ¬ SX.1 801 * 4 + 0 = SX.1 801 * 4 + 2 := zpe6 (q := 0) (by decide)
          have e03 : ¬ SX.1 801 * 4 + 0 = SX.1 801 * 4 + 3 := zpe6 (q := 0) (by decide)
          have e12 : ¬ SX.1 801 * 4 + 1 = SX.1 801 * 4 + 2 := zpe6 (q := 0) (by decide)
          have e13 : ¬ SX.1 801 * 4 + 1 = SX.1 801 * 4 + 3 := zpe6 (q := 0) (by decide)
          have e23 : ¬ SX.1 801 * 4 + 2 = SX.1 801 * 4 + 3 := zpe6 (q := 0) (by decide)
          simp only [e01, e02, e03, e12, e13, e23, if_true, if_false]
          exact ⟨⟨trivial, h3⟩, ⟨trivial, h4⟩, ⟨trivial, q2.1, h5⟩, ⟨trivial, q2.2, h6⟩⟩
        · have ne : ∀ a b : Int32, 0 ≤ a → a ≤ 3 → 0 ≤ b → b ≤ 3 → ¬ q * 4 + a = SX.1 801 * 4 + b := fun a b x1 x2 x3 x4 => zpe5 b2 f q0 q8 x1 x2 x3 x4 c
          have k00 := ne 0 0 (by decide) (by decide) (by decide) (by decide)
          have k01 := ne 0 1 (by decide) (by decide) (by decide) (by decide)
          have k02 := ne 0 2 (by decide) (by decide) (by decide) (by decide)
          have k03 := ne 0 3 (by decide) (by decide) (by decide) (by decide)
          have k10 := ne 1 0 (by decide) (by decide) (by decide) (by decide)
          have k11 := ne 1 1 (by decide) (by decide) (by decide) (by decide)
          have k12 := ne 1 2 (by decide) (by decide) (by decide) (by decide)
          have k13 := ne 1 3 (by decide) (by decide) (by decide) (by decide)
          have k20 := ne 2 0 (by decide) (by decide) (by decide) (by decide)
          have k21 := ne 2 1 (by decide) (by decide) (by decide) (by decide)
          have k22 := ne 2 2 (by decide) (by decide) (by decide) (by decide)
          have k23 := ne 2 3 (by decide) (by decide) (by decide) (by decide)
          have k30 := ne 3 0 (by decide) (by decide) (by decide) (by decide)
          have k31 := ne 3 1 (by decide) (by decide) (by decide) (by decide)
          have k32 := ne 3 2 (by decide) (by decide) (by decide) (by decide)
          have k33 := ne 3 3 (by decide) (by decide) (by decide) (by decide)
          simp only [k00, k01, k02, k03, k10, k11, k12, k13, k20, k21, k22, k23, k30, k31, k32, k33, c, if_false]
          exact b4 q q0 (zpe7 b2 f q1 c)
      · exact rChange_grow hC (Int32.le_refl _) (zpe12 (b1 ▸ b2) (b1 ▸ f)) (fun _ _ _ => rfl)
    · have f2 : SR.1 28 = 8 := by rw [← b1]; exact zpe1 b3 f
      rw [if_pos f2]
      simp only [e_isFull7, f, if_false, one_ne, zB_some]
      exact zEq_i rfl hRel
  · rw [if_neg h, e_personR _ _ _ h]
    exact zEq_i rfl hRel

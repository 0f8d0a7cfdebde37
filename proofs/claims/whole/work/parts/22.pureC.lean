-- notch, person, taken
theorem e_isFull5 (S : zSt) : fX5_isFull S = some (if S.1 602 < 20 then 0 else 1, S) := by
  unfold fX5_isFull; split <;> rfl
theorem zno1 {n : Int32} (h0 : 0 ≤ n) (h : ¬ n ≤ 0) : ¬ n = 0 ∧ 0 ≤ n - 1 ∧ n - 1 < n := by
  refine ⟨?_, ?_, ?_⟩ <;> grind
theorem zno1b {n : Int32} (h0 : 0 ≤ n) (h : n ≤ 0) : n = 0 := by grind
theorem zno2 {n : Int32} (h0 : 0 ≤ n) (h : n ≤ 20) (c : ¬ n ≤ 0) : n - 1 < 20 := by grind
theorem zno3 {a p : Int32} (h0 : 0 ≤ a) (h : a ≤ 47) : (a + 1 ≤ p ∧ p ≤ 47) ↔ (¬ p ≤ a ∧ 0 ≤ p ∧ p ≤ 47) := by
  constructor
  · rintro ⟨x, y⟩
    refine ⟨?_, ?_, ?_⟩ <;> grind
  · rintro ⟨x, y, z⟩
    refine ⟨?_, ?_⟩ <;> grind
theorem zno4 {n : Int32} (h : n ≤ 20) (h2 : ¬ n < 20) : n = 20 := by grind
theorem zno5 {n : Int32} (h2 : n < 20) : ¬ n = 20 := by grind
theorem zno6 {n : Int32} (h0 : 0 ≤ n) (h2 : n < 20) : 0 ≤ n + 1 ∧ n + 1 ≤ 20 := by
  constructor <;> grind
theorem zno7 {i n : Int32} (h0 : 0 ≤ n) (h2 : n < 20) (h : i < n + 1) (h3 : ¬ i = n) : i < n := by grind
/-- may a notch come: alike -/
theorem e_may {SX SR : zSt} (hN : rNotch (SX.1 602) (SR.1 37) (SX.2.1 600) (SX.2.1 601) (SR.2.1 38) (SR.2.1 39)) (p1 p2 : Int32) : ∃ r : Int32, fX5_mayCome p1 p2 SX = some (r, SX) ∧ fX12_isNotch p1 p2 SR = some (r, SR) ∧ (r = 0 ∨ (r = 1 ∧ (0 ≤ p1 ∧ p1 ≤ 47) ∧ (-20 ≤ p2 ∧ p2 ≤ 60))) := by
  obtain ⟨n1, n2, n3, n4⟩ := hN
  have bX : ∀ u0 : Int32, fX5_mayCome_b27 p1 p2 u0 SX = some (if ¬ u0 = 0 ∧ (0 ≤ p1 ∧ p1 ≤ 47) ∧ (-20 ≤ p2 ∧ p2 ≤ 60) then 1 else 0, SX) := fun u0 => by
    unfold fX5_mayCome_b27
    simp only [e_isHourX, e_isWithin, zU_some, z10]
    repeat' split
    all_goals first | rfl | (exfalso; simp_all)
  have bR : ∀ a b : Int32, fX12_isNotch_b25 p2 a b SR = some (if (b ≤ a ∧ a ≤ 47) ∧ (-20 ≤ p2 ∧ p2 ≤ 60) then 1 else 0, SR) := fun a b => by
    unfold fX12_isNotch_b25
    simp only [e_in, zU_some, z10]
    repeat' split
    all_goals first | rfl | (exfalso; simp_all)
  unfold fX5_mayCome fX12_isNotch fX5_mayCome_b22
  rw [← n1]
  by_cases c : SX.1 602 ≤ 0
  · have c2 := zno1b n2 c
    rw [if_pos c, if_pos c2, bX, bR]
    refine ⟨_, rfl, ?_, ?_⟩
    · simp only [one_ne, not_false_eq_true, true_and]
    · by_cases d : ¬ (1 : Int32) = 0 ∧ (0 ≤ p1 ∧ p1 ≤ 47) ∧ (-20 ≤ p2 ∧ p2 ≤ 60)
      · exact Or.inr ⟨if_pos d, d.2⟩
      · exact Or.inl (if_neg d)
  · obtain ⟨c1, c2, c3⟩ := zno1 n2 c
    have hz : zin (SX.1 602 - 1) 20 := zin_of (k := 20) rfl (by decide) c2 (zno2 n2 n3 c)
    obtain ⟨m1, m2, m3, m4, m5, m6⟩ := n4 _ c2 c3
    rw [if_neg c, if_neg c1, if_pos hz, if_pos hz, ← m1, bR, bX, bX]
    have e := zno3 (p := p1) m3 m4
    by_cases d : p1 ≤ SX.2.1 600 (Int32.toNatClampNeg (SX.1 602 - 1))
    · rw [if_pos d]
      refine ⟨_, rfl, ?_, ?_⟩
      · simp only [e, d, not_true_eq_false, false_and, if_false, ne_one0]
      · exact Or.inl (if_neg fun z => z.1 rfl)
    · rw [if_neg d]
      refine ⟨_, rfl, ?_, ?_⟩
      · simp only [e, d, not_false_eq_true, true_and, one_ne]
      · by_cases d2 : ¬ (1 : Int32) = 0 ∧ (0 ≤ p1 ∧ p1 ≤ 47) ∧ (-20 ≤ p2 ∧ p2 ≤ 60)
        · exact Or.inr ⟨if_pos d2, d2.2⟩
        · exact Or.inl (if_neg d2)
/-- one more notch -/
theorem rNotch_add {n m : Int32} {hx rx hr rr : Nat → Int32} (h : rNotch n m hx rx hr rr) (f : n < 20) {a b : Int32} (ha : 0 ≤ a ∧ a ≤ 47) (hb : -20 ≤ b ∧ b ≤ 60) : rNotch (n + 1) (m + 1) (upd hx (Int32.toNatClampNeg n) a) (upd rx (Int32.toNatClampNeg n) b) (upd hr (Int32.toNatClampNeg m) a) (upd rr (Int32.toNatClampNeg m) b) := by
  obtain ⟨rfl, n2, n3, n4⟩ := h
  refine ⟨rfl, (zno6 n2 f).1, (zno6 n2 f).2, fun i i0 i1 => ?_⟩
  rw [zupd_at n2 i0, zupd_at n2 i0, zupd_at n2 i0, zupd_at n2 i0]
  by_cases c : i = n
  · simp only [if_pos c]
    exact ⟨trivial, trivial, ha.1, ha.2, hb.1, hb.2⟩
  · simp only [if_neg c]
    exact n4 i i0 (zno7 n2 f i1 c)
theorem e_addX {S : zSt} (h0 : 0 ≤ S.1 602) (f : S.1 602 < 20) (a b : Int32) : fX5_add a b S = some (S.1 602, zI (zA (zA S 600 (Int32.toNatClampNeg (S.1 602)) a) 601 (Int32.toNatClampNeg (S.1 602)) b) 602 (S.1 602 + 1)) := by
  have hz : zin (S.1 602) 20 := zin_of (k := 20) rfl (by decide) h0 f
  unfold fX5_add
  simp only [e_isFull5, f, if_true, zB_some, if_pos hz, zL_def, zA_1, zI_self, zup1]
  exact if_pos hz
theorem e_addR {S : zSt} (h0 : 0 ≤ S.1 37) (f : S.1 37 < 20) (a b : Int32) : fX12_addNotch a b S = some (zI (zA (zA S 38 (Int32.toNatClampNeg (S.1 37)) a) 39 (Int32.toNatClampNeg (S.1 37)) b) 37 (S.1 37 + 1)) := by
  have hz : zin (S.1 37) 20 := zin_of (k := 20) rfl (by decide) h0 f
  unfold fX12_addNotch
  simp only [if_pos hz, zL_def, zA_1]
  exact if_pos hz
theorem q_notch {SX SR : zSt} (hRel : zRel SX SR) (p1 p2 : Int32) : zEq (fX11_notch p1 p2 SX) (fX12_notch p1 p2 SR) := by
  obtain ⟨hT, hP, hPe, hS, hL, hN, hB, hTr, hSh, hC, hG⟩ := id hRel
  obtain ⟨n1, n2, n3, n4⟩ := id hN
  obtain ⟨r, e1, e2, e3⟩ := e_may hN p1 p2
  unfold fX11_notch fX12_notch
  rw [e1, e2]
  simp only [zB_some]
  rcases e3 with rfl | ⟨rfl, ha, hb⟩
  · simp only [if_true]
    exact zEq_i rfl hRel
  · by_cases f : SX.1 602 < 20
    · have f2 : ¬ SR.1 37 = 20 := by rw [← n1]; exact zno5 f
      simp only [one_ne, if_false, e_isFull5, f, if_true, zB_some, f2, e_addX n2 f, e_addR (n1 ▸ n2) (n1 ▸ f), zU_some, zI_self, zup1]
      refine zEq_i n1 ⟨hT, hP, hPe, hS, hL, ?_, hB, hTr, hSh, hC, hG⟩
      exact rNotch_add hN f ha hb
    · have f2 : SR.1 37 = 20 := by rw [← n1]; exact zno4 n3 f
      simp only [one_ne, if_false, e_isFull5, f, f2, if_true, zB_some]
      exact zEq_i rfl hRel
theorem z8cases {k : Int32} (h : 0 ≤ k) (h2 : k ≤ 7) : k = 0 ∨ k = 1 ∨ k = 2 ∨ k = 3 ∨ k = 4 ∨ k = 5 ∨ k = 6 ∨ k = 7 := by grind
theorem zunder (N n : Nat) (S : zSt) {k q : Int32} (hk : 0 ≤ k ∧ k ≤ 7) (hq : 0 ≤ q ∧ q ≤ 7) : ∃ r : Int32, fX0_isUnder_b4 N (n + 9) q k 0 S = some (r, S) ∧ fX12_isUnder k q = some r := by
  rcases z8cases hk.1 hk.2 with rfl | rfl | rfl | rfl | rfl | rfl | rfl | rfl <;> rcases z8cases hq.1 hq.2 with rfl | rfl | rfl | rfl | rfl | rfl | rfl | rfl <;> exact ⟨_, rfl, rfl⟩
theorem zN9 : zN = 999991 + 9 := rfl
theorem q_taken {SX SR : zSt} (hRel : zRel SX SR) (p1 p2 : Int32) : zEq (fX11_taken zN p1 p2 SX) (fX12_taken p1 p2 SR) := by
  obtain ⟨hT, hP, hPe, hS, hL, hN, hB, hTr, hSh, hC, hG⟩ := id hRel
  obtain ⟨b1, b2, b3, b4⟩ := id hB
  have hnb : SR.1 40 ≤ 50 := by rw [← b1]; exact b3
  unfold fX11_taken fX12_taken fX9_sortOn fX9_bodyOn fX0_kindOf fX0_isUnder
  simp only [e_has9, e_isShelf, e_isKind, e_in, zU_some]
  by_cases h : 0 ≤ p1 ∧ p1 < 6
  · have hz : zin p1 6 := zin_of (k := 6) rfl (by decide) h.1 h.2
    by_cases g : 0 ≤ p2 ∧ p2 ≤ 7
    · rcases zshelf hSh hnb h 0 with a | a | a
      · simp only [h, g, and_self, if_true, one_ne, if_false, if_pos hz, zB_some, a.1, a.2]
        exact zEq_i rfl hRel
      · obtain ⟨a1, a2, a3, a4, a5⟩ := a
        have h0 := hSh p1 h.1 h.2
        have hb0 : 0 ≤ SR.2.1 44 (Int32.toNatClampNeg p1) := by
          rcases h0 with z | z | z
          · exact absurd z.2 a2
          · exact z.2.2.1
          · exact absurd (zsD z.1 z.2.1 z.2.2.1).2.2.2 a3
        have hlt : SR.2.1 44 (Int32.toNatClampNeg p1) < SX.1 102 := by rw [b1]; exact a5
        have hz2 : zin (SR.2.1 44 (Int32.toNatClampNeg p1)) 50 := zin_of (k := 50) rfl (by decide) hb0 (zar3 hlt b3)
        obtain ⟨k1, k2, k3⟩ := b4 _ hb0 hlt
        obtain ⟨r, u1, u2⟩ := zunder zN 999991 SX (k := SX.2.1 100 (Int32.toNatClampNeg (SR.2.1 44 (Int32.toNatClampNeg p1)))) (q := p2) ⟨k2, k3⟩ g
        rw [← zN9] at u1
        have e0 : ((-1 : Int32) = -2) = False := by decide
        simp only [h, g, and_self, if_true, one_ne, if_false, if_pos hz, zB_some, a1, a2, a3, e0, a4, e_has0, hb0, hlt, if_pos hz2, u1, ← k1, u2, zU_some]
        by_cases c : r = 0
        · rw [if_pos c, if_pos c]; exact zEq_i rfl hRel
        · rw [if_neg c, if_neg c]; exact zEq_i rfl hRel
      · obtain ⟨a1, a2, a3, a4, a5, a6, -⟩ := a
        simp only [h, g, and_self, if_true, one_ne, if_false, if_pos hz, zB_some, a2, a3, a5, a6]
        exact zEq_i rfl hRel
    · simp only [h, g, and_self, if_true, one_ne, if_false]
      exact zEq_i rfl hRel
  · simp only [h, if_false, if_true]
    exact zEq_i rfl hRel
-- person
theorem e_isFull7 (S : zSt) : fX7_isFull S = some (if S.1 801 < 8 then 0 else 1, S) := by
  unfold fX7_isFull; split <;> rfl
theorem e_mayBe (a b : Int32) (S : zSt) : fX7_mayBe a b S = some (if 0 ≤ a ∧ 0 ≤ b ∧ (30 ≤ a / 100 ∧ a / 100 ≤ 120) ∧ (10 ≤ a - a / 100 * 100 ∧ a - a / 100 * 100 ≤ 22) ∧ b / 100 ≤ 9 ∧ b - b / 100 * 100 ≤ 40 then 1 else 0, S) := by
  unfold fX7_mayBe
  simp only [e_isWithin, zU_some, z10]
  generalize a / 100 = x
  generalize a - x * 100 = y
  generalize b / 100 = u
  generalize b - u * 100 = v
  grind
theorem zpe1 {n : Int32} (h : n ≤ 8) (h2 : ¬ n < 8) : n = 8 := by grind
theorem zpe2 {n : Int32} (h2 : n < 8) : ¬ n = 8 := by grind
theorem zpe3 {n w : Int32} (h0 : 0 ≤ n) (h2 : n < 8) (a : 0 ≤ w) (b : w ≤ 3) : 0 ≤ n * 4 + w ∧ n * 4 + w < 32 := by
  constructor <;> grind
theorem zpe4 {n w : Int32} (a : 0 ≤ n * 4 + w ∧ n * 4 + w < 32) : ¬ n * 4 + w < 0 ∧ ¬ 32 ≤ n * 4 + w := by
  constructor <;> grind
theorem e_putV (i v : Int32) (S : zSt) (h : 0 ≤ i ∧ i < 32) : fX7_putValue i v S = some (zA S 800 (Int32.toNatClampNeg i) v) := by
  have hz : zin i 32 := zin_of (k := 32) rfl (by decide) h.1 h.2
  unfold fX7_putValue
  rw [if_neg (zar5 h.1), if_neg (zar6 h.2), if_pos hz]
  rfl
theorem zpe5 {n q a b : Int32} (h0 : 0 ≤ n) (h2 : n < 8) (h3 : 0 ≤ q) (h4 : q < 8) (a0 : 0 ≤ a) (a1 : a ≤ 3) (b0 : 0 ≤ b) (b1 : b ≤ 3) (c : ¬ q = n) : ¬ q * 4 + a = n * 4 + b := by grind
theorem zpe6 {n q a b : Int32} (c : ¬ a = b) : ¬ n + a = n + b := by grind
theorem zpe7 {i n : Int32} (h0 : 0 ≤ n) (h2 : n < 8) (h : i < n + 1) (h3 : ¬ i = n) : i < n := by grind
theorem zpe8 {n : Int32} (h0 : 0 ≤ n) (h2 : n < 8) : 0 ≤ n + 1 ∧ n + 1 ≤ 8 := by
  constructor <;> grind
theorem zpe9 {i n : Int32} (h0 : 0 ≤ n) (h2 : n < 8) (h : i < n + 1) : i < 8 := by grind
theorem zdivI {a : Int32} (h : 0 ≤ a) : (a / 100).toInt = a.toInt / 100 := by
  have e0 : (0 : Int32).toInt = 0 := by decide
  have e1 : (100 : Int32).toInt = 100 := by decide
  rw [Int32.le_iff_toInt_le, e0] at h
  have hlt := Int32.toInt_lt a
  rw [Int32.toInt_div, e1, Int.tdiv_eq_ediv_of_nonneg h, Int.bmod_eq_of_le (by omega) (by omega)]
theorem zmul100 {a : Int32} (h : 0 ≤ a) : (a - a / 100 * 100).toInt = a.toInt % 100 := by
  have d := zdivI h
  have e0 : (0 : Int32).toInt = 0 := by decide
  have e1 : (100 : Int32).toInt = 100 := by decide
  rw [Int32.le_iff_toInt_le, e0] at h
  have hlt := Int32.toInt_lt a
  have m : (a / 100 * 100).toInt = a.toInt / 100 * 100 := by
    rw [Int32.toInt_mul, d, e1, Int.bmod_eq_of_le (by omega) (by omega)]
  rw [Int32.toInt_sub, m, Int.bmod_eq_of_le (by omega) (by omega)]
  omega
theorem zpe10 {a : Int32} (h : 0 ≤ a) : 0 ≤ a / 100 ∧ 0 ≤ a - a / 100 * 100 := by
  have e0 : (0 : Int32).toInt = 0 := by decide
  have h2 := h
  rw [Int32.le_iff_toInt_le, e0] at h2
  constructor
  · rw [Int32.le_iff_toInt_le, e0, zdivI h]; omega
  · rw [Int32.le_iff_toInt_le, e0, zmul100 h]; omega
theorem zpe11 {i n : Int32} (h0 : 0 ≤ n) (h2 : n < 8) (h : i < n) : i < n + 1 := by grind

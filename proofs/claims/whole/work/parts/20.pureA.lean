theorem zI_self (S : zSt) (k : Nat) (v : Int32) : (zI S k v).1 k = v := if_pos rfl
theorem zI_ne (S : zSt) {k j : Nat} (v : Int32) (h : ¬ j = k) : (zI S k v).1 j = S.1 j := if_neg h
theorem zI_2 (S : zSt) (k : Nat) (v : Int32) : (zI S k v).2 = S.2 := rfl
theorem zA_1 (S : zSt) (c k : Nat) (v : Int32) : (zA S c k v).1 = S.1 := rfl
theorem zA_self (S : zSt) (c k : Nat) (v : Int32) : (zA S c k v).2.1 c = upd (S.2.1 c) k v := if_pos rfl
theorem zA_ne (S : zSt) {c d : Nat} (k : Nat) (v : Int32) (h : ¬ d = c) : (zA S c k v).2.1 d = S.2.1 d := if_neg h
theorem zA_3 (S : zSt) (c k : Nat) (v : Int32) : (zA S c k v).2.2 = S.2.2 := rfl
theorem zJ_1 (S : zSt) (c k : Nat) (v : Int64) : (zJ S c k v).1 = S.1 := rfl
theorem zJ_2 (S : zSt) (c k : Nat) (v : Int64) : (zJ S c k v).2.1 = S.2.1 := rfl
theorem zup1 (n : Int32) : n + 1 - 1 = n := by grind
theorem ne_one0 : ((0 : Int32) = 0) = True := by decide
theorem e_isFull0 (S : zSt) : fX0_isFull S = some (if S.1 102 < 50 then 0 else 1, S) := by
  unfold fX0_isFull; split <;> rfl
theorem e_isKind (p : Int32) : fX0_isKind p = some (if 0 ≤ p ∧ p ≤ 7 then 1 else 0) := by
  unfold fX0_isKind; grind
theorem e_has9 (p : Int32) : fX9_has p = some (if 0 ≤ p ∧ p < 6 then 1 else 0) := by
  unfold fX9_has; grind
theorem e_isShelf (p : Int32) : fX12_isShelf p = some (if 0 ≤ p ∧ p < 6 then 1 else 0) := by
  unfold fX12_isShelf
  simp only [e_in, zU_some, zbit10, if_true]
  grind
theorem e_isHourX (p : Int32) : fX11_isHour p = some (if 0 ≤ p ∧ p ≤ 47 then 1 else 0) := by
  unfold fX11_isHour
  simp only [e_isWithin, zU_some, zbit10, if_true]
theorem e_isHourR (p : Int32) : fX12_isHour p = some (if 0 ≤ p ∧ p ≤ 47 then 1 else 0) := by
  unfold fX12_isHour
  simp only [e_in, zU_some, zbit10, if_true]
theorem zar10 {n : Int32} (h : n ≤ 50) (h2 : ¬ n < 50) : n = 50 := by grind
theorem zar11 {n : Int32} (h2 : n < 50) : ¬ n = 50 := by grind
theorem zar12 {n : Int32} (h0 : 0 ≤ n) (h2 : n < 50) : 0 ≤ n + 1 ∧ n + 1 ≤ 50 := by grind
theorem zar13 {i n : Int32} (h0 : 0 ≤ n) (h2 : n < 50) (h : i < n + 1) (h3 : ¬ i = n) : i < n := by grind
theorem zar14 {i n : Int32} (h0 : 0 ≤ n) (h2 : n < 50) (h : i < n) : i < n + 1 := by grind
theorem rShelf_grow {n : Int32} {so le bo ho si : Nat → Int32} {ro : Nat → Nat → Int64} {el : Nat → Int64} (h0 : 0 ≤ n) (h2 : n < 50) (h : rShelf n so le bo ho si ro el) : rShelf (n + 1) so le bo ho si ro el := fun s h1 h3 => by
  rcases h s h1 h3 with a | a | a
  · exact Or.inl a
  · exact Or.inr (Or.inl ⟨a.1, a.2.1, a.2.2.1, zar14 h0 h2 a.2.2.2⟩)
  · exact Or.inr (Or.inr a)
theorem q_body {SX SR : zSt} (hRel : zRel SX SR) (p1 : Int32) : zEq (fX11_body p1 SX) (fX12_body p1 SR) := by
  obtain ⟨hT, hP, hPe, hS, hL, hN, hB, hTr, hSh, hC, hG⟩ := id hRel
  obtain ⟨b1, b2, b3, b4⟩ := id hB
  unfold fX11_body fX12_body fX0_add
  simp only [e_isKind, e_in, zU_some]
  by_cases h : 0 ≤ p1 ∧ p1 ≤ 7
  · by_cases f : SX.1 102 < 50
    · have hz : zin (SX.1 102) 50 := zin_of (k := 50) rfl (by decide) b2 f
      have f2 : ¬ SR.1 40 = 50 := by rw [← b1]; exact zar11 f
      have hz2 : zin (SR.1 40) 50 := by rw [← b1]; exact hz
      simp only [h, and_self, if_true, one_ne, if_false, e_isFull0, f, f2, zB_some, if_pos hz, if_pos hz2, zL_def, zI_self, zA_1, zup1]
      refine zEq_i b1 ⟨hT, hP, hPe, hS, hL, hN, ?_, hTr, ?_, hC, hG⟩
      · refine ⟨?_, ?_, ?_, fun i i0 i1 => ?_⟩
        · show SX.1 102 + 1 = SR.1 40 + 1
          rw [b1]
        · exact (zar12 b2 f).1
        · exact (zar12 b2 f).2
        · have i2 : i < SX.1 102 + 1 := i1
          show upd (SX.2.1 100) (Int32.toNatClampNeg (SX.1 102)) p1 (Int32.toNatClampNeg i) = upd (SR.2.1 41) (Int32.toNatClampNeg (SR.1 40)) p1 (Int32.toNatClampNeg i) ∧ 0 ≤ upd (SX.2.1 100) (Int32.toNatClampNeg (SX.1 102)) p1 (Int32.toNatClampNeg i) ∧ upd (SX.2.1 100) (Int32.toNatClampNeg (SX.1 102)) p1 (Int32.toNatClampNeg i) ≤ 7
          rw [← b1, zupd_at b2 i0, zupd_at b2 i0]
          by_cases c : i = SX.1 102
          · rw [if_pos c, if_pos c]; exact ⟨rfl, h⟩
          · rw [if_neg c, if_neg c]; exact b4 i i0 (zar13 b2 f i2 c)
      · show rShelf (SR.1 40 + 1) _ _ _ _ _ _ _
        exact rShelf_grow (b1 ▸ b2) (b1 ▸ f) hSh
    · have f2 : SR.1 40 = 50 := by rw [← b1]; exact zar10 b3 f
      simp only [h, and_self, if_true, one_ne, if_false, e_isFull0, f, f2, zB_some]
      exact zEq_i rfl hRel
  · simp only [h, if_false, if_true]
    exact zEq_i rfl hRel
theorem q_keep {SX SR : zSt} (hRel : zRel SX SR) (p1 p2 : Int32) : zEq (fX11_keep p1 p2 SX) (fX12_keep p1 p2 SR) := by
  obtain ⟨hT, hP, hPe, hS, hL, hN, hB, hTr, hSh, hC, hG⟩ := id hRel
  obtain ⟨b1, b2, b3, b4⟩ := id hB
  have h40 : 0 ≤ SR.1 40 := b1 ▸ b2
  unfold fX11_keep fX12_keep fX11_keep_b25 fX12_keep_b22 fX9_hold fX9_hold_b23
  simp only [e_has9, e_isShelf, zU_some, e_has0, e_isBody _ _ h40, zB_some, b1]
  by_cases h : 0 ≤ p1 ∧ p1 < 6
  · have hz : zin p1 6 := zin_of (k := 6) rfl (by decide) h.1 h.2
    have key : ∀ (v t : Int32), (v = -1 ∧ t = -2) ∨ (0 ≤ v ∧ v < SR.1 40 ∧ t = -1) → zRel (zA (zA SX 1000 (Int32.toNatClampNeg p1) t) 1002 (Int32.toNatClampNeg p1) v) (zA SR 44 (Int32.toNatClampNeg p1) v) := fun v t hv => by
      refine ⟨hT, hP, hPe, hS, hL, hN, hB, hTr, ?_, hC, hG⟩
      intro s s0 s1
      show (upd (SX.2.1 1000) (Int32.toNatClampNeg p1) t (Int32.toNatClampNeg s) = -2 ∧ upd (SR.2.1 44) (Int32.toNatClampNeg p1) v (Int32.toNatClampNeg s) = -1) ∨ (upd (SX.2.1 1000) (Int32.toNatClampNeg p1) t (Int32.toNatClampNeg s) = -1 ∧ upd (SX.2.1 1002) (Int32.toNatClampNeg p1) v (Int32.toNatClampNeg s) = upd (SR.2.1 44) (Int32.toNatClampNeg p1) v (Int32.toNatClampNeg s) ∧ 0 ≤ upd (SR.2.1 44) (Int32.toNatClampNeg p1) v (Int32.toNatClampNeg s) ∧ upd (SR.2.1 44) (Int32.toNatClampNeg p1) v (Int32.toNatClampNeg s) < SR.1 40) ∨
        (0 ≤ upd (SX.2.1 1000) (Int32.toNatClampNeg p1) t (Int32.toNatClampNeg s) ∧ upd (SX.2.1 1000) (Int32.toNatClampNeg p1) t (Int32.toNatClampNeg s) ≤ 4 ∧ upd (SR.2.1 44) (Int32.toNatClampNeg p1) v (Int32.toNatClampNeg s) = -2 - upd (SX.2.1 1000) (Int32.toNatClampNeg p1) t (Int32.toNatClampNeg s) ∧ _)
      rw [zupd_at h.1 s0, zupd_at h.1 s0, zupd_at h.1 s0]
      by_cases c : s = p1
      · rw [if_pos c, if_pos c, if_pos c]
        rcases hv with ⟨rfl, rfl⟩ | ⟨v0, v1, rfl⟩
        · exact Or.inl ⟨rfl, rfl⟩
        · exact Or.inr (Or.inl ⟨rfl, rfl, v0, v1⟩)
      · rw [if_neg c, if_neg c, if_neg c]
        exact hSh s s0 s1
    by_cases c : p2 = -1
    · subst c
      simp only [h, and_self, if_true, one_ne, if_false, if_pos hz, zL_def, zU_some]
      exact zEq_i rfl (key (-1) (-2) (Or.inl ⟨rfl, rfl⟩))
    · by_cases g : 0 ≤ p2 ∧ p2 < SR.1 40
      · simp only [h, g, c, and_self, if_true, one_ne, if_false, if_pos hz, zL_def, zU_some]
        exact zEq_i rfl (key p2 (-1) (Or.inr ⟨g.1, g.2, rfl⟩))
      · simp only [h, g, c, and_self, if_true, one_ne, if_false]
        exact zEq_i rfl hRel
  · simp only [h, if_false, if_true]
    exact zEq_i rfl hRel

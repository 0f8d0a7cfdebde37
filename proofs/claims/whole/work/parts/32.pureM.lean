-- off, fit
theorem zab_neg (x : Int32) : (if 0 ≤ x then x else -x) = zab x := by
  unfold zab
  rw [Int32.zero_sub]
theorem e_sizeOf (x : Int32) : fX12_sizeOf x = some (zab x) := by
  unfold fX12_sizeOf
  rw [← zab_neg]
  split <;> rfl
theorem zTX_refl (a : zSt) : zTX a a := zK_refl _
theorem zTR_refl (a : zSt) : zTR a a := zK_refl _
theorem zTX_t {a b c : zSt} (h : zTX a b) (h2 : zTX b c) : zTX a c := zK_t h h2
theorem zTR_t {a b c : zSt} (h : zTR a b) (h2 : zTR b c) : zTR a c := zK_t h h2
theorem e_off_loop {l : Int32} (h0 : 0 ≤ l) : ∀ (n n2 k : Nat) (acc : Int32) (SX SR : zSt), zRel SX SR → l < SX.1 505 → k ≤ 20 → 20 < k + n → 20 < k + n2 →
    ∃ (r : Int32) (SX1 SR1 : zSt), fX5_differenceFrom_b5 zN n l acc (Int32.ofNat k) SX = some (r, SX1) ∧ fX12_offOf_b4 zN n2 l acc (Int32.ofNat k) SR = some (r, SR1) ∧ zTX SX SX1 ∧ zTR SR SR1 := by
  intro n
  induction n with
  | zero => intro n2 k acc SX SR hR h1 k1 f1; exact absurd f1 (by omega)
  | succ n ih =>
    intro n2 k acc SX SR hR h1 k1 f1 f2
    obtain _ | n2 := n2
    · exact absurd f2 (by omega)
    obtain ⟨hT, hP, hPe, hS, hL, hN, hB, hTr, hSh, hC, hG⟩ := id hR
    obtain ⟨n1, m0, m1, n4⟩ := id hN
    obtain ⟨m, hm1, hm⟩ := zo_exle m0 (by decide : 20 < 2147483648) m1
    have e1 : (SX.1 602 ≤ Int32.ofNat k) = (m ≤ k) := by rw [hm, zo_le (by omega) (by omega)]
    rw [fX5_differenceFrom_b5, fX12_offOf_b4, ← n1]
    by_cases c : m ≤ k
    · rw [if_pos (by rw [e1]; exact c), if_pos (by rw [e1]; exact c)]
      exact ⟨acc, SX, SR, rfl, rfl, zTX_refl _, zTR_refl _⟩
    · have z : zin (Int32.ofNat k) 20 := zin_o (by omega) (by decide)
      obtain ⟨x1, x2, x3⟩ := n4 (Int32.ofNat k) (zo_0 (by omega)) (by rw [hm, zo_lt (by omega) (by omega)]; omega)
      obtain ⟨v, SX1, SR1, g1, g2, b, k1', k2'⟩ := e_riseBy hR (hour := SX.2.1 600 (Int32.toNatClampNeg (Int32.ofNat k))) h0 h1
      have t1 : zTX SX SX1 := zTX_of k1' (by simp) (by simp)
      have t2 : zTR SR SR1 := zTR_of k2' (by simp) (by simp)
      obtain ⟨r, SX2, SR2, i1, i2, i3, i4⟩ := ih n2 (k + 1) (acc + zab (v - SX.2.1 601 (Int32.toNatClampNeg (Int32.ofNat k)))) SX1 SR1 (zRel_T hR t1 t2) (by rw [t1.1 505 (by decide)]; exact h1) (by omega) (by omega) (by omega)
      refine ⟨r, SX2, SR2, ?_, ?_, zTX_t t1 i3, zTR_t t2 i4⟩
      · rw [if_neg (by rw [e1]; exact c), if_pos z, g1, zB_some, if_pos z, t1.2.1 601 (by decide), zL_def, zo_s]
        exact i1
      · rw [if_neg (by rw [e1]; exact c), if_pos z, ← x1, g2, zB_some, if_pos z, t2.2.1 39 (by decide), ← x2, e_sizeOf, zU_some, zo_s]
        exact i2
theorem e_off {SX SR : zSt} (hR : zRel SX SR) {l : Int32} (h0 : 0 ≤ l) (h1 : l < SX.1 505) : ∃ (r : Int32) (SX1 SR1 : zSt), fX5_differenceFrom zN l SX = some (r, SX1) ∧ fX12_offOf zN l SR = some (r, SR1) ∧ zTX SX SX1 ∧ zTR SR SR1 :=
  e_off_loop h0 zN zN 0 0 SX SR hR h1 (by decide) (by decide) (by decide)
theorem q_off {SX SR : zSt} (hRel : zRel SX SR) (p1 : Int32) : zEq (fX11_off zN p1 SX) (fX12_off zN p1 SR) := by
  have l1 := hRel.2.2.2.2.1.1
  have l2 : 0 ≤ SR.1 24 := l1 ▸ hRel.2.2.2.2.1.2.1
  have n1 := hRel.2.2.2.2.2.1.1
  unfold fX11_off fX12_off
  rw [e_has4, e_isLaw _ _ l2, zB_some, zB_some, ← l1, ← n1]
  by_cases c : 0 ≤ p1 ∧ p1 < SX.1 505
  · rw [if_pos c, if_neg zn10, if_neg zn10]
    by_cases d : SX.1 602 = 0
    · rw [if_pos d, if_pos d]
      exact zEq_i rfl hRel
    · obtain ⟨r, SX1, SR1, e1, e2, k1, k2⟩ := e_off hRel c.1 c.2
      rw [if_neg d, if_neg d, e1, e2]
      exact zEq_i rfl (zRel_T hRel k1 k2)
  · rw [if_neg c, if_pos zn00, if_pos zn00]
    exact zEq_i rfl hRel
theorem e_fit_loop : ∀ (n n2 k b : Nat) (SX SR : zSt), zRel SX SR → b < 4 → Int32.ofNat b < SX.1 505 → 1 ≤ k → k ≤ 4 → 4 < k + n → 4 < k + n2 →
    ∃ (r : Int32) (SX1 SR1 : zSt), fX5_nearestOf_b4 zN n (Int32.ofNat b) (Int32.ofNat k) SX = some (r, SX1) ∧ fX12_fit_b21 zN n2 (Int32.ofNat b) (Int32.ofNat k) SR = some (r, SR1) ∧ zTX SX SX1 ∧ zTR SR SR1 := by
  intro n
  induction n with
  | zero => intro n2 k b SX SR hR h1 h2 k0 k1 f1; exact absurd f1 (by omega)
  | succ n ih =>
    intro n2 k b SX SR hR b4 hb k0 k1 f1 f2
    obtain _ | n2 := n2
    · exact absurd f2 (by omega)
    obtain ⟨l1, l2, l3, -⟩ := hR.2.2.2.2.1
    obtain ⟨m, hm1, hm⟩ := zo_exle l2 (by decide : 4 < 2147483648) l3
    have e1 : (SX.1 505 ≤ Int32.ofNat k) = (m ≤ k) := by rw [hm, zo_le (by omega) (by omega)]
    rw [fX5_nearestOf_b4, fX12_fit_b21, ← l1]
    by_cases c : m ≤ k
    · rw [if_pos (by rw [e1]; exact c), if_pos (by rw [e1]; exact c)]
      exact ⟨_, SX, SR, rfl, rfl, zTX_refl _, zTR_refl _⟩
    · rw [if_neg (by rw [e1]; exact c), if_neg (by rw [e1]; exact c)]
      have hk : Int32.ofNat k < SX.1 505 := by rw [hm, zo_lt (by omega) (by omega)]; omega
      obtain ⟨r, SX1, SR1, a1, a2, t1, t2⟩ := e_off hR (l := Int32.ofNat k) (zo_0 (by omega)) hk
      have hR1 := zRel_T hR t1 t2
      have q1 : SX1.1 505 = SX.1 505 := t1.1 505 (by decide)
      obtain ⟨r2, SX2, SR2, a3, a4, t3, t4⟩ := e_off hR1 (l := Int32.ofNat b) (zo_0 (by omega)) (by rw [q1]; exact hb)
      have hR2 := zRel_T hR1 t3 t4
      have q2 : SX2.1 505 = SX.1 505 := (t3.1 505 (by decide)).trans q1
      rw [a1, a2, zB_some, zB_some, a3, a4, zB_some, zB_some, zo_s]
      by_cases d : r2 ≤ r
      · rw [if_pos d, if_pos d]
        obtain ⟨s, SX3, SR3, i1, i2, i3, i4⟩ := ih n2 (k + 1) b SX2 SR2 hR2 b4 (by rw [q2]; exact hb) (by omega) (by omega) (by omega) (by omega)
        exact ⟨s, SX3, SR3, i1, i2, zTX_t t1 (zTX_t t3 i3), zTR_t t2 (zTR_t t4 i4)⟩
      · rw [if_neg d, if_neg d]
        obtain ⟨s, SX3, SR3, i1, i2, i3, i4⟩ := ih n2 (k + 1) k SX2 SR2 hR2 (by omega) (by rw [q2]; exact hk) (by omega) (by omega) (by omega) (by omega)
        exact ⟨s, SX3, SR3, i1, i2, zTX_t t1 (zTX_t t3 i3), zTR_t t2 (zTR_t t4 i4)⟩
theorem zfi {n : Int32} (h : 0 ≤ n) (c : ¬ n = 0) : 0 < n := by grind
theorem q_fit {SX SR : zSt} (hRel : zRel SX SR) : zEq (fX11_fit zN SX) (fX12_fit zN SR) := by
  have l1 := hRel.2.2.2.2.1.1
  have n1 := hRel.2.2.2.2.2.1.1
  unfold fX11_fit fX12_fit fX11_fit_b20
  rw [← l1, ← n1]
  by_cases d : SX.1 602 = 0
  · rw [if_pos d, if_pos d]
    exact zEq_i rfl hRel
  · by_cases c : SX.1 505 = 0
    · rw [if_neg d, if_neg d, if_pos c, if_pos c]
      exact zEq_i rfl hRel
    · rw [if_neg d, if_neg d, if_neg c, if_neg c]
      obtain ⟨r, SX1, SR1, e1, e2, k1, k2⟩ := e_fit_loop zN zN 1 0 SX SR hRel (by decide) (zfi hRel.2.2.2.2.1.2.1 c) (by decide) (by decide) (by decide) (by decide)
      unfold fX5_nearestOf
      have e1 : fX5_nearestOf_b4 zN zN 0 1 SX = some (r, SX1) := e1
      have e2 : fX12_fit_b21 zN zN 0 1 SR = some (r, SR1) := e2
      rw [e1, e2]
      exact zEq_i rfl (zRel_T hRel k1 k2)

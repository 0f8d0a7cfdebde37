-- the copies of a law that was read
theorem r_copy1 {u L : Nat} (hu : u < 4) (hL : L ≤ 130) : ∀ (c n j : Nat) (S : zSt), j + c = L → c < n → S.1 16 = Int32.ofNat L →
    ∃ S1 : zSt, fX12_readText_b105 zN n (Int32.ofNat u) (Int32.ofNat j) S = fX12_readText_b177 zN zN (Int32.ofNat u) 0 (zA S1 19 u (S1.2.1 19 4)) ∧ zKeep [] [17, 18] S S1 ∧
      (∀ i, j ≤ i → i < L → S1.2.1 17 (130 * u + i) = vp_nar .byte (S.2.1 17 (520 + i)) ∧ S1.2.1 18 (130 * u + i) = S.2.1 18 (520 + i)) ∧ (∀ i, (i < 130 * u + j ∨ 520 ≤ i) → S1.2.1 17 i = S.2.1 17 i ∧ S1.2.1 18 i = S.2.1 18 i) := by
  intro c
  induction c with
  | zero =>
    intro n j S h1 h2 h16
    obtain _ | n := n
    · exact absurd h2 (by omega)
    have z4 : zin 4 5 := by decide
    have zu : zin (Int32.ofNat u) 5 := zin_o (by omega) (by decide)
    refine ⟨S, ?_, zK_refl _, fun i i0 i1 => absurd i0 (by omega), fun i _ => ⟨rfl, rfl⟩⟩
    rw [fX12_readText_b105, h16, zi_le (by omega) (by omega), if_pos (by omega), if_pos z4]
    rw [if_pos zu, zL_def, zo_t (by omega)]
    rfl
  | succ c ih =>
    intro n j S h1 h2 h16
    obtain _ | n := n
    · exact absurd h2 (by omega)
    have e520 : (520 : Int32) + Int32.ofNat j = Int32.ofNat (520 + j) := zo_add 520 j
    have e130 : (130 : Int32) * Int32.ofNat u + Int32.ofNat j = Int32.ofNat (130 * u + j) := by
      rw [show (130 : Int32) * Int32.ofNat u = Int32.ofNat (130 * u) from zo_mul 130 u, zo_add]
    have z1 : zin (Int32.ofNat (520 + j)) 650 := zin_o (by omega) (by decide)
    have z2 : zin (Int32.ofNat (130 * u + j)) 650 := zin_o (by omega) (by decide)
    rw [fX12_readText_b105, h16, zi_le (by omega) (by omega), if_neg (by omega), e520, e130]
    simp only [if_pos z1, if_pos z2, zL_def]
    rw [zo_t (by omega), zo_t (by omega), zo_s]
    have k : zKeep [] [17, 18] S (zA (zA S 17 (130 * u + j) (vp_nar .byte (S.2.1 17 (520 + j)))) 18 (130 * u + j) ((zA S 17 (130 * u + j) (vp_nar .byte (S.2.1 17 (520 + j)))).2.1 18 (520 + j))) := zK_mono (zK_trans (zK_A S 17 _ _) (zK_A _ 18 _ _)) (by simp) (by simp)
    have g17 : ∀ i, (zA (zA S 17 (130 * u + j) (vp_nar .byte (S.2.1 17 (520 + j)))) 18 (130 * u + j) ((zA S 17 (130 * u + j) (vp_nar .byte (S.2.1 17 (520 + j)))).2.1 18 (520 + j))).2.1 17 i = if i = 130 * u + j then vp_nar .byte (S.2.1 17 (520 + j)) else S.2.1 17 i := fun i => by
      rw [zA_oth _ _ _ _ (by decide), zA_get]
    have g18 : ∀ i, (zA (zA S 17 (130 * u + j) (vp_nar .byte (S.2.1 17 (520 + j)))) 18 (130 * u + j) ((zA S 17 (130 * u + j) (vp_nar .byte (S.2.1 17 (520 + j)))).2.1 18 (520 + j))).2.1 18 i = if i = 130 * u + j then S.2.1 18 (520 + j) else S.2.1 18 i := fun i => by
      rw [zA_get, zA_oth _ _ _ _ (by decide), zA_oth _ _ _ _ (by decide)]
    generalize zA (zA S 17 (130 * u + j) (vp_nar .byte (S.2.1 17 (520 + j)))) 18 (130 * u + j) ((zA S 17 (130 * u + j) (vp_nar .byte (S.2.1 17 (520 + j)))).2.1 18 (520 + j)) = S' at k g17 g18 ⊢
    obtain ⟨S1, a1, a2, a3, a4⟩ := ih n (j + 1) S' (by omega) (by omega) ((k.1 16 (by simp)).trans h16)
    refine ⟨S1, a1, zK_t k a2, fun i i0 i1 => ?_, fun i hi => ?_⟩
    · by_cases w : i = j
      · subst w
        rw [(a4 _ (Or.inl (by omega))).1, (a4 _ (Or.inl (by omega))).2, g17, g18, if_pos rfl, if_pos rfl]
        exact ⟨rfl, rfl⟩
      · rw [(a3 i (by omega) i1).1, (a3 i (by omega) i1).2, g17, g18, if_neg (by omega), if_neg (by omega)]
        exact ⟨rfl, rfl⟩
    · rw [(a4 i (by omega)).1, (a4 i (by omega)).2, g17, g18, if_neg (by omega), if_neg (by omega)]
      exact ⟨rfl, rfl⟩
theorem r_copy2 {u K : Nat} (hu : u < 4) (hK : K ≤ 61) : ∀ (c n j : Nat) (S : zSt), j + c = K → c < n → S.2.1 19 u = Int32.ofNat K →
    ∃ S1 : zSt, fX12_readText_b177 zN n (Int32.ofNat u) (Int32.ofNat j) S = some (-1, S1) ∧ zKeep [] [20, 21] S S1 ∧
      (∀ i, j ≤ i → i < K → S1.2.1 20 (61 * u + i) = vp_nar .short (S.2.1 20 (244 + i)) ∧ S1.2.1 21 (61 * u + i) = vp_nar .short (S.2.1 21 (244 + i))) ∧ (∀ i, (i < 61 * u + j ∨ 244 ≤ i) → S1.2.1 20 i = S.2.1 20 i ∧ S1.2.1 21 i = S.2.1 21 i) := by
  intro c
  induction c with
  | zero =>
    intro n j S h1 h2 h19
    obtain _ | n := n
    · exact absurd h2 (by omega)
    have zu : zin (Int32.ofNat u) 5 := zin_o (by omega) (by decide)
    refine ⟨S, ?_, zK_refl _, fun i i0 i1 => absurd i0 (by omega), fun i _ => ⟨rfl, rfl⟩⟩
    rw [fX12_readText_b177, if_pos zu, zo_t (by omega), h19, zi_le (by omega) (by omega), if_pos (by omega)]
  | succ c ih =>
    intro n j S h1 h2 h19
    obtain _ | n := n
    · exact absurd h2 (by omega)
    have zu : zin (Int32.ofNat u) 5 := zin_o (by omega) (by decide)
    have e244 : (244 : Int32) + Int32.ofNat j = Int32.ofNat (244 + j) := zo_add 244 j
    have e61 : (61 : Int32) * Int32.ofNat u + Int32.ofNat j = Int32.ofNat (61 * u + j) := by
      rw [show (61 : Int32) * Int32.ofNat u = Int32.ofNat (61 * u) from zo_mul 61 u, zo_add]
    have z1 : zin (Int32.ofNat (244 + j)) 305 := zin_o (by omega) (by decide)
    have z2 : zin (Int32.ofNat (61 * u + j)) 305 := zin_o (by omega) (by decide)
    rw [fX12_readText_b177, if_pos zu, e244, e61]
    simp only [if_pos z1, if_pos z2, zL_def]
    rw [zo_t (n := u) (by omega), h19, zi_le (by omega) (by omega), if_neg (by omega), zo_t (by omega), zo_t (by omega), zo_s]
    have k : zKeep [] [20, 21] S (zA (zA S 20 (61 * u + j) (vp_nar .short (S.2.1 20 (244 + j)))) 21 (61 * u + j) (vp_nar .short ((zA S 20 (61 * u + j) (vp_nar .short (S.2.1 20 (244 + j)))).2.1 21 (244 + j)))) := zK_mono (zK_trans (zK_A S 20 _ _) (zK_A _ 21 _ _)) (by simp) (by simp)
    have g20 : ∀ i, (zA (zA S 20 (61 * u + j) (vp_nar .short (S.2.1 20 (244 + j)))) 21 (61 * u + j) (vp_nar .short ((zA S 20 (61 * u + j) (vp_nar .short (S.2.1 20 (244 + j)))).2.1 21 (244 + j)))).2.1 20 i = if i = 61 * u + j then vp_nar .short (S.2.1 20 (244 + j)) else S.2.1 20 i := fun i => by
      rw [zA_oth _ _ _ _ (by decide), zA_get]
    have g21 : ∀ i, (zA (zA S 20 (61 * u + j) (vp_nar .short (S.2.1 20 (244 + j)))) 21 (61 * u + j) (vp_nar .short ((zA S 20 (61 * u + j) (vp_nar .short (S.2.1 20 (244 + j)))).2.1 21 (244 + j)))).2.1 21 i = if i = 61 * u + j then vp_nar .short (S.2.1 21 (244 + j)) else S.2.1 21 i := fun i => by
      rw [zA_get, zA_oth _ _ _ _ (by decide), zA_oth _ _ _ _ (by decide)]
    generalize zA (zA S 20 (61 * u + j) (vp_nar .short (S.2.1 20 (244 + j)))) 21 (61 * u + j) (vp_nar .short ((zA S 20 (61 * u + j) (vp_nar .short (S.2.1 20 (244 + j)))).2.1 21 (244 + j))) = S' at k g20 g21 ⊢
    obtain ⟨S1, a1, a2, a3, a4⟩ := ih n (j + 1) S' (by omega) (by omega) (by rw [k.2.1 19 (by simp)]; exact h19)
    refine ⟨S1, a1, zK_t k a2, fun i i0 i1 => ?_, fun i hi => ?_⟩
    · by_cases w : i = j
      · subst w
        rw [(a4 _ (Or.inl (by omega))).1, (a4 _ (Or.inl (by omega))).2, g20, g21, if_pos rfl, if_pos rfl]
        exact ⟨rfl, rfl⟩
      · rw [(a3 i (by omega) i1).1, (a3 i (by omega) i1).2, g20, g21, if_neg (by omega), if_neg (by omega)]
        exact ⟨rfl, rfl⟩
    · rw [(a4 i (by omega)).1, (a4 i (by omega)).2, g20, g21, if_neg (by omega), if_neg (by omega)]
      exact ⟨rfl, rfl⟩
theorem zK_cA (S : zSt) (a b i j n : Nat) : zKeep [] [b] S (zcA S a b i j n) := ⟨fun _ _ => rfl, fun d hd => if_neg (by simpa using hd), rfl⟩
theorem zcA_get (S : zSt) {a b n : Nat} {i : Nat} (h : i < n) : (zcA S a b 0 0 n).2.1 b i = S.2.1 a i := by
  show (vf_upd S.2.1 b (va_cpy (S.2.1 a) (S.2.1 b) 0 0 n)) b i = _
  rw [show (vf_upd S.2.1 b (va_cpy (S.2.1 a) (S.2.1 b) 0 0 n)) b = va_cpy (S.2.1 a) (S.2.1 b) 0 0 n from if_pos rfl]
  unfold va_cpy
  rw [if_pos (by omega), Nat.zero_add, Nat.sub_zero]
theorem x_copyTo {n m : Nat} (hn : n < 4) (hm : m ≤ 121) {S : zSt} (h : S.1 402 = Int32.ofNat m) : fX3_copyTo (Int32.ofNat n) S = some (zcA S 401 (5010 + n) 0 0 m) := by
  have e : zmn (S.1 402) 121 = Int32.ofNat m := by
    rw [h]
    obtain ⟨a1, a2, a3⟩ := zmn_le (Int32.ofNat m) 121
    rcases a3 with a3 | a3
    · exact a3
    · rw [a3] at a1
      have a1 : Int32.ofNat 121 ≤ Int32.ofNat m := a1
      rw [zo_le (by omega) (by omega)] at a1
      rw [a3, show m = 121 by omega]
      rfl
  have t0 : Int32.toNatClampNeg (0 : Int32) = 0 := by decide
  unfold fX3_copyTo
  rw [e, zo_t (by omega), zo_t (by omega), t0, if_pos ⟨by decide, by decide, Int32.not_lt.mpr (zo_0 (by omega)), by omega, by omega⟩, zL_def]
/-- the laws, by their numbers -/
def zLws (SX SR : zSt) (n : Nat) : Prop := ∀ l, l < n → zLaw l (SX.2.1 502 l) (SX.2.1 (5010 + l)) (SR.2.1 17) (SR.2.1 18) (SR.2.1 19 l) (SR.2.1 20) (SR.2.1 21)
theorem zLws_of {n : Nat} (hn : n ≤ 4) {m : Int32} {SX SR : zSt} (h : rLaws (Int32.ofNat n) m (SX.2.1 502) (SX.2.1 5010) (SX.2.1 5011) (SX.2.1 5012) (SX.2.1 5013) (SR.2.1 17) (SR.2.1 18) (SR.2.1 19) (SR.2.1 20) (SR.2.1 21)) : zLws SX SR n := by
  obtain ⟨-, -, -, h0, h1, h2, h3⟩ := h
  intro l hl
  have c : ∀ k : Nat, k < 4 → k < n → Int32.ofNat k < Int32.ofNat n := fun k k4 kn => by rw [zo_lt (by omega) (by omega)]; exact kn
  rcases (show l = 0 ∨ l = 1 ∨ l = 2 ∨ l = 3 by omega) with rfl | rfl | rfl | rfl
  · exact h0 (c 0 (by omega) hl)
  · exact h1 (c 1 (by omega) hl)
  · exact h2 (c 2 (by omega) hl)
  · exact h3 (c 3 (by omega) hl)
theorem zLws_to {n : Nat} (hn : n ≤ 4) {SX SR : zSt} (h : zLws SX SR n) : rLaws (Int32.ofNat n) (Int32.ofNat n) (SX.2.1 502) (SX.2.1 5010) (SX.2.1 5011) (SX.2.1 5012) (SX.2.1 5013) (SR.2.1 17) (SR.2.1 18) (SR.2.1 19) (SR.2.1 20) (SR.2.1 21) := by
  have c : ∀ k : Nat, k < 4 → Int32.ofNat k < Int32.ofNat n → k < n := fun k k4 kn => by rw [zo_lt (by omega) (by omega)] at kn; exact kn
  refine ⟨rfl, zo_0 (by omega), ?_, fun q => h 0 (c 0 (by omega) q), fun q => h 1 (c 1 (by omega) q), fun q => h 2 (c 2 (by omega) q), fun q => h 3 (c 3 (by omega) q)⟩
  show Int32.ofNat n ≤ Int32.ofNat 4
  rw [zo_le (by omega) (by omega)]
  exact hn
theorem zLws_old {n : Nat} {SX SR SX1 SR1 : zSt} (h : zLws SX SR n) (h1 : ∀ l, l < n → SX1.2.1 502 l = SX.2.1 502 l ∧ SX1.2.1 (5010 + l) = SX.2.1 (5010 + l) ∧ SR1.2.1 19 l = SR.2.1 19 l) (h2 : ∀ i, i < 130 * n → SR1.2.1 17 i = SR.2.1 17 i ∧ SR1.2.1 18 i = SR.2.1 18 i) (h3 : ∀ i, i < 61 * n → SR1.2.1 20 i = SR.2.1 20 i ∧ SR1.2.1 21 i = SR.2.1 21 i) : zLws SX1 SR1 n := by
  intro l hl
  obtain ⟨ls, g1, g2, g3, g4, g5, g6⟩ := h l hl
  obtain ⟨c1, c2, c3⟩ := h1 l hl
  rw [c1, c2, c3]
  refine ⟨ls, ?_, g2, g3, g4, g5, g6⟩
  exact zLR_mv (N8 := id) (N16 := id) (fun _ _ => rfl) (fun _ _ => rfl) ls 0 0 0 (by omega) (fun i _ i1 => rfl) (fun j _ j1 => h2 _ (by omega)) (fun j _ j1 => h3 _ (by omega)) g1

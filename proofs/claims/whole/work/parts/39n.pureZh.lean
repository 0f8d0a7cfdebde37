-- a cell
def zrC (x p : Nat) (S : zSt) : Option zSt := zB (fX12_digit S) fun r19 S20 => some (zA (zA S20 6 (x + 2) r19) 4 p ((zA S20 6 (x + 2) r19).2.1 4 p + 1))
def zrB (x p : Nat) (S : zSt) : Option zSt := zB (fX12_readNumber zN S) fun r11 S12 => zU (fX12_takes 44 (zA S12 6 (x + 1) r11)) fun S17 => zrC x p S17
def zrA (x p : Nat) (r3 : Int32) (S : zSt) : Option zSt := zU (fX12_takes 44 (zA S 6 x r3)) fun S9 => zrB x p S9
theorem r_cell {p i : Nat} (hp : p < 6) (hi : i < 12) {S : zSt} (h : S.2.1 4 p = Int32.ofNat i) : fX12_readCell zN (Int32.ofNat p) S = zB (fX12_readNumber zN S) fun r3 S4 => zrA (36 * p + 3 * i) p r3 S4 := by
  have z7 : zin (Int32.ofNat p) 7 := zin_o (by omega) (by decide)
  have z0 : zin (Int32.ofNat (36 * p + 3 * i)) 252 := zin_o (by omega) (by decide)
  have z1 : zin (Int32.ofNat (36 * p + 3 * i) + 1) 252 := by rw [zo_s]; exact zin_o (by omega) (by decide)
  have e2 : Int32.ofNat (36 * p + 3 * i) + 2 = Int32.ofNat (36 * p + 3 * i + 2) := zo_add _ 2
  have z2 : zin (Int32.ofNat (36 * p + 3 * i) + 2) 252 := by rw [e2]; exact zin_o (by omega) (by decide)
  unfold fX12_readCell zrA zrB zrC
  simp only [if_pos z7, zL_def]
  rw [zo_t (by omega), h, zix0]
  simp only [if_pos z0, if_pos z1, if_pos z2]
  rw [zo_t (by omega), zo_s, zo_t (by omega), e2, zo_t (by omega)]
/-- what a cell that is read may change -/
def zPR (p x : Nat) (a b : zSt) : Prop := zKeep [13, 14] [4, 6] a b ∧ (∀ q, ¬ q = p → b.2.1 4 q = a.2.1 4 q) ∧ ∀ j, j < x → b.2.1 6 j = a.2.1 6 j
def zPX (x : Nat) (a b : zSt) : Prop := zKeep [1102] [901] a b ∧ ∀ j, j < x → b.2.1 901 j = a.2.1 901 j
theorem zPR_refl (p x : Nat) (a : zSt) : zPR p x a a := ⟨zK_refl _, fun _ _ => rfl, fun _ _ => rfl⟩
theorem zPX_refl (x : Nat) (a : zSt) : zPX x a a := ⟨zK_refl _, fun _ _ => rfl⟩
theorem zPR_t {p x : Nat} {a b c : zSt} (h : zPR p x a b) (h2 : zPR p x b c) : zPR p x a c := ⟨zK_t h.1 h2.1, fun q hq => (h2.2.1 q hq).trans (h.2.1 q hq), fun j hj => (h2.2.2 j hj).trans (h.2.2 j hj)⟩
theorem zPX_t {x : Nat} {a b c : zSt} (h : zPX x a b) (h2 : zPX x b c) : zPX x a c := ⟨zK_t h.1 h2.1, fun j hj => (h2.2 j hj).trans (h.2 j hj)⟩
theorem zPR_k {p x : Nat} {a b : zSt} {I : List Nat} (k : zKeep I [] a b) (hI : ∀ j ∈ I, j ∈ [13, 14]) : zPR p x a b := ⟨zK_mono k hI (by simp), fun q _ => by rw [k.2.1 4 (by simp)], fun j _ => by rw [k.2.1 6 (by simp)]⟩
theorem zPR_6 {p x j : Nat} (a : zSt) (h : x ≤ j) (v : Int32) : zPR p x a (zA a 6 j v) := ⟨zK_mono (zK_A a 6 j v) (by simp) (by simp), fun q _ => zA_oth _ _ _ _ (by decide), fun i hi => by rw [zA_get, if_neg (by omega)]⟩
theorem zPR_4 {p x : Nat} (a : zSt) (v : Int32) : zPR p x a (zA a 4 p v) := ⟨zK_mono (zK_A a 4 p v) (by simp) (by simp), fun q hq => by rw [zA_get, if_neg hq], fun i _ => zA_oth _ _ _ _ (by decide)⟩
theorem zPR_m {p x y : Nat} {a b : zSt} (h : zPR p x a b) (hy : y ≤ x) : zPR p y a b := ⟨h.1, h.2.1, fun j hj => h.2.2 j (by omega)⟩
theorem zPX_m {x y : Nat} {a b : zSt} (h : zPX x a b) (hy : y ≤ x) : zPX y a b := ⟨h.1, fun j hj => h.2 j (by omega)⟩
theorem rC_f {x p : Nat} {S : zSt} (h : 0 ≤ S.1 14) : ∃ S1 : zSt, zrC x p S = some S1 ∧ S1.1 14 = S.1 14 ∧ zPR p x S S1 := by
  unfold zrC
  rw [r_digit_f h, zB_some]
  exact ⟨_, rfl, rfl, zPR_t (zPR_6 S (by omega) 0) (zPR_4 _ _)⟩
theorem rB_f {x p : Nat} {S : zSt} (h : 0 ≤ S.1 14) : ∃ S1 : zSt, zrB x p S = some S1 ∧ S1.1 14 = S.1 14 ∧ zPR p x S S1 := by
  unfold zrB
  rw [r_num_f h, zB_some, r_takes_f (S := zA S 6 (x + 1) 0) h, zU_some]
  obtain ⟨S1, a1, a2, a3⟩ := rC_f (x := x) (p := p) (S := zA S 6 (x + 1) 0) h
  exact ⟨S1, a1, a2, zPR_t (zPR_6 S (by omega) 0) a3⟩
theorem rA_f {x p : Nat} {S : zSt} (h : 0 ≤ S.1 14) (v : Int32) : ∃ S1 : zSt, zrA x p v S = some S1 ∧ S1.1 14 = S.1 14 ∧ zPR p x S S1 := by
  unfold zrA
  rw [r_takes_f (S := zA S 6 x v) h, zU_some]
  obtain ⟨S1, a1, a2, a3⟩ := rB_f (x := x) (p := p) (S := zA S 6 x v) h
  exact ⟨S1, a1, a2, zPR_t (zPR_6 S (by omega) v) a3⟩
theorem zdg4 {x : Int32} (h : 48 ≤ x ∧ x ≤ 57) : 0 ≤ x - 48 ∧ x - 48 ≤ 9 ∧ ¬ x - 48 < 0 := by
  refine ⟨?_, ?_, ?_⟩
  · grind
  · grind
  · grind
theorem e_cell {f g : Nat → Int32} {t a : Nat} (hz : zTz f g t) (ha : a ≤ t) {SX SR : zSt} (hX : zTXs f t a SX) (hR : zTRs g t a SR) {p i : Nat} (hp : p < 6) (hi : i < 12) (h4 : SR.2.1 4 p = Int32.ofNat i) :
    (∃ (a2 : Nat) (SX1 SR1 : zSt), fX8_readCell (Int32.ofNat (36 * p + 3 * i)) SX = some (1, SX1) ∧ fX12_readCell zN (Int32.ofNat p) SR = some SR1 ∧ a2 ≤ t ∧ zTXs f t a2 SX1 ∧ zTRs g t a2 SR1 ∧ zPX (36 * p + 3 * i) SX SX1 ∧ zPR p (36 * p + 3 * i) SR SR1 ∧ SR1.2.1 4 p = Int32.ofNat (i + 1) ∧ ∀ w, w < 3 → SX1.2.1 901 (36 * p + 3 * i + w) = SR1.2.1 6 (36 * p + 3 * i + w) ∧ rVal (Int32.ofNat w) (SX1.2.1 901 (36 * p + 3 * i + w))) ∨
    (∃ (q : Nat) (SX1 SR1 : zSt), fX8_readCell (Int32.ofNat (36 * p + 3 * i)) SX = some (0, SX1) ∧ fX12_readCell zN (Int32.ofNat p) SR = some SR1 ∧ q ≤ 120 ∧ SX1.1 1102 = Int32.ofNat q ∧ SR1.1 14 = Int32.ofNat q ∧ zPX (36 * p + 3 * i) SX SX1 ∧ zPR p (36 * p + 3 * i) SR SR1) := by
  have ht := hz.1
  have e0 : Int32.ofNat (36 * p + 3 * i) + 0 = Int32.ofNat (36 * p + 3 * i) := Int32.add_zero _
  have e1 : Int32.ofNat (36 * p + 3 * i) + 1 = Int32.ofNat (36 * p + 3 * i + 1) := zo_s _
  have e2 : Int32.ofNat (36 * p + 3 * i) + 2 = Int32.ofNat (36 * p + 3 * i + 2) := zo_add _ 2
  rw [r_cell hp hi h4]
  unfold fX8_readCell
  rw [e0, e1, e2]
  generalize hx : 36 * p + 3 * i = x
  have hx2 : x + 2 < 216 := by omega
  -- what is left behind a fault
  have fault : ∀ (q : Nat) (SX1 : zSt) (R : Option zSt), q ≤ 120 → (∃ SR1 : zSt, R = some SR1 ∧ SR1.1 14 = Int32.ofNat q ∧ zPR p x SR SR1) → SX1.1 1102 = Int32.ofNat q → zPX x SX SX1 → ∃ (q : Nat) (SX2 SR1 : zSt), (some ((0 : Int32), SX1)) = some ((0 : Int32), SX2) ∧ R = some SR1 ∧ q ≤ 120 ∧ SX2.1 1102 = Int32.ofNat q ∧ SR1.1 14 = Int32.ofNat q ∧ zPX x SX SX2 ∧ zPR p x SR SR1 := fun q SX1 R hq ⟨SR1, b1, b2, b3⟩ h2 h3 => ⟨q, SX1, SR1, rfl, b1, hq, h2, b2, h3, b3⟩
  have h14 : ∀ (q : Nat) (S : zSt), q ≤ 120 → S.1 14 = Int32.ofNat q → 0 ≤ S.1 14 := fun q S hq e => by rw [e]; exact zo_0 (by omega)
  rcases e_measure hz ha hX hR (by omega : x < 216) with ⟨v1, a1, SX1, SR1, m1, m2, mv1, ma1, mX1, mR1, mk1, mu1, mk2⟩ | ⟨v1, SX1, SR1, m1, m2, m3, m4, mk1, mk2⟩
  · have hR1' : zTRs g t a1 (zA SR1 6 x v1) := zTRs_K mR1 (zK_A _ _ _ _) (by simp) (by simp)
    have pX1 : zPX x SX SX1 := ⟨mk1, fun j hj => by rw [mu1 j, if_neg (by omega)]⟩
    have pR1 : zPR p x SR (zA SR1 6 x v1) := zPR_t (zPR_k mk2 (by simp)) (zPR_6 _ (Nat.le_refl _) _)
    rw [m1, m2, zB_some, zB_some, if_neg zn10, x_pass ht ma1 mX1]
    unfold zrA
    rw [r_takes ht ma1 hR1' (by decide)]
    have q44 := zSb_eq hz a1 (c := 44) (by decide) (by decide)
    by_cases c1 : zSb f t a1 = 44
    · have hat1 : a1 < t := zSb_lt (by rw [c1]; decide)
      rw [if_pos c1, if_pos (q44.mp c1), zB_some, if_neg zn10, zU_some]
      have hX2 := zTXs_s mX1 (a1 + 1)
      have hR2 := zTRs_s hR1' (a1 + 1)
      have pX2 : zPX x SX (zI SX1 1102 (Int32.ofNat (a1 + 1))) := zPX_t pX1 ⟨zK_mono (zK_I _ _ _) (by simp) (by simp), fun j _ => rfl⟩
      have pR2 : zPR p x SR (zI (zA SR1 6 x v1) 13 (Int32.ofNat (a1 + 1))) := zPR_t pR1 (zPR_k (zK_I _ _ _) (by simp))
      unfold zrB
      rcases e_measure hz (by omega : a1 + 1 ≤ t) hX2 hR2 (by omega : x + 1 < 216) with ⟨v2, a2, SX3, SR3, n1, n2, nv2, na2, nX3, nR3, nk1, nu1, nk2⟩ | ⟨v2, SX3, SR3, n1, n2, n3, n4, nk1, nk2⟩
      · have hR3' : zTRs g t a2 (zA SR3 6 (x + 1) v2) := zTRs_K nR3 (zK_A _ _ _ _) (by simp) (by simp)
        have pX3 : zPX x SX SX3 := zPX_t pX2 ⟨nk1, fun j hj => by rw [nu1 j, if_neg (by omega)]⟩
        have pR3 : zPR p x SR (zA SR3 6 (x + 1) v2) := zPR_t pR2 (zPR_t (zPR_k nk2 (by simp)) (zPR_6 _ (by omega) _))
        rw [n1, n2, zB_some, zB_some, if_neg zn10, x_pass ht na2 nX3, r_takes ht na2 hR3' (by decide)]
        have q44b := zSb_eq hz a2 (c := 44) (by decide) (by decide)
        by_cases c2 : zSb f t a2 = 44
        · have hat2 : a2 < t := zSb_lt (by rw [c2]; decide)
          rw [if_pos c2, if_pos (q44b.mp c2), zB_some, if_neg zn10, zU_some]
          have hX4 := zTXs_s nX3 (a2 + 1)
          have hR4 := zTRs_s hR3' (a2 + 1)
          have pX4 : zPX x SX (zI SX3 1102 (Int32.ofNat (a2 + 1))) := zPX_t pX3 ⟨zK_mono (zK_I _ _ _) (by simp) (by simp), fun j _ => rfl⟩
          have pR4 : zPR p x SR (zI (zA SR3 6 (x + 1) v2) 13 (Int32.ofNat (a2 + 1))) := zPR_t pR3 (zPR_k (zK_I _ _ _) (by simp))
          unfold zrC fX8_readBed
          rw [x_digit ht (by omega) hX4, r_digit ht (by omega) hR4]
          by_cases d : 48 ≤ zSb f t (a2 + 1) ∧ zSb f t (a2 + 1) ≤ 57
          · have dR := (zSb_dig hz (a2 + 1)).1.mp d
            have eR := (zSb_dig hz (a2 + 1)).2 d
            have hat3 : a2 + 1 < t := zSb_lt (Int32.le_trans (by decide) d.1)
            obtain ⟨b0, b9, bn⟩ := zdg4 d
            rw [if_pos d, if_pos dR, zB_some, x_putv hx2, zU_some, if_neg bn, zB_some, if_neg zn10, zB_some]
            have hX5 := zTXs_s hX4 (a2 + 2)
            have hR5 := zTRs_s hR4 (a2 + 2)
            refine Or.inl ⟨a2 + 2, _, _, rfl, rfl, by omega, zTXs_K hX5 (zK_A _ 901 (x + 2) _) (by simp) (by simp), zTRs_K (zTRs_K hR5 (zK_A _ 6 (x + 2) _) (by simp) (by simp)) (zK_A _ 4 p _) (by simp) (by simp), ?_, ?_, ?_, ?_⟩
            · refine zPX_t (zPX_t pX4 ⟨zK_mono (zK_I _ 1102 (Int32.ofNat (a2 + 2))) (by simp) (by simp), fun j _ => rfl⟩) ⟨zK_mono (zK_A _ 901 (x + 2) _) (by simp) (by simp), fun j hj => by rw [zA_get, if_neg (by omega)]⟩
            · exact zPR_t (zPR_t (zPR_t pR4 (zPR_k (zK_I _ 13 (Int32.ofNat (a2 + 2))) (by simp))) (zPR_6 _ (by omega) _)) (zPR_4 _ _)
            · rw [zA_get, if_pos rfl, zA_oth _ _ _ _ (by decide)]
              have : (zI (zI (zA SR3 6 (x + 1) v2) 13 (Int32.ofNat (a2 + 1))) 13 (Int32.ofNat (a2 + 1 + 1))).2.1 4 p = Int32.ofNat i := by
                show (zA SR3 6 (x + 1) v2).2.1 4 p = _
                rw [zA_oth _ _ _ _ (by decide), nk2.2.1 4 (by simp)]
                show (zA SR1 6 x v1).2.1 4 p = _
                rw [zA_oth _ _ _ _ (by decide), mk2.2.1 4 (by simp)]
                exact h4
              rw [this, zo_s]
            · have g0 : SX1.2.1 901 x = v1 := by rw [mu1 x, if_pos rfl]
              have r6 : ∀ j, (zA SR3 6 (x + 1) v2).2.1 6 j = if j = x + 1 then v2 else if j = x then v1 else SR.2.1 6 j := fun j => by
                rw [zA_get, nk2.2.1 6 (by simp)]
                show (if j = x + 1 then v2 else (zA SR1 6 x v1).2.1 6 j) = _
                rw [zA_get, mk2.2.1 6 (by simp)]
              have x9 : ∀ j, SX3.2.1 901 j = if j = x + 1 then v2 else if j = x then v1 else SX.2.1 901 j := fun j => by
                rw [nu1 j]
                show (if j = x + 1 then v2 else SX1.2.1 901 j) = _
                rw [mu1 j]
              intro w hw
              have w3 : w = 0 ∨ w = 1 ∨ w = 2 := by omega
              rw [zA_oth _ _ _ _ (by decide : ¬ (6 : Nat) = 4), zA_get, zA_get]
              show (if x + w = x + 2 then zSb f t (a2 + 1) - 48 else SX3.2.1 901 (x + w)) = (if x + w = x + 2 then zSb g t (a2 + 1) - 48 else (zA SR3 6 (x + 1) v2).2.1 6 (x + w)) ∧ rVal (Int32.ofNat w) (if x + w = x + 2 then zSb f t (a2 + 1) - 48 else SX3.2.1 901 (x + w))
              rw [r6, x9]
              rcases w3 with rfl | rfl | rfl
              · simp only [if_neg (show ¬ x + 0 = x + 2 by omega), if_neg (show ¬ x + 0 = x + 1 by omega), if_pos (show x + 0 = x by omega)]
                exact ⟨trivial, (zval mv1).1⟩
              · simp only [if_neg (show ¬ x + 1 = x + 2 by omega), if_pos (show x + 1 = x + 1 from rfl)]
                exact ⟨rfl, (zval nv2).2⟩
              · rw [if_pos rfl, if_pos rfl, eR]
                rw [eR] at b0 b9
                exact ⟨rfl, zval2 ⟨b0, b9⟩⟩
          · have dR : ¬ (48 ≤ zSb g t (a2 + 1) ∧ zSb g t (a2 + 1) ≤ 57) := fun y => d ((zSb_dig hz (a2 + 1)).1.mpr y)
            rw [if_neg d, if_neg dR, zB_some, x_putv hx2, zU_some, if_pos (show (-1 : Int32) < 0 by decide), zB_some, if_pos zn00, zB_some]
            refine Or.inr (fault (a2 + 1) _ _ (by omega) ⟨_, rfl, ?_, ?_⟩ hX4.2.1 (zPX_t pX4 ⟨zK_mono (zK_A _ 901 (x + 2) _) (by simp) (by simp), fun j hj => by rw [zA_get, if_neg (by omega)]⟩))
            · show (zI (zI (zA SR3 6 (x + 1) v2) 13 (Int32.ofNat (a2 + 1))) 14 (Int32.ofNat (a2 + 1))).1 14 = _
              exact zI_self _ _ _
            · exact zPR_t (zPR_t (zPR_t pR4 (zPR_k (zK_I _ 14 (Int32.ofNat (a2 + 1))) (by simp))) (zPR_6 _ (by omega) _)) (zPR_4 _ _)
        · rw [if_neg c2, if_neg (fun y => c2 (q44b.mpr y)), zB_some, if_pos zn00, zU_some]
          obtain ⟨SR5, b1, b2, b3⟩ := rC_f (x := x) (p := p) (S := zI (zA SR3 6 (x + 1) v2) 14 (Int32.ofNat a2)) (by rw [zI_self]; exact zo_0 (by omega))
          exact Or.inr (fault a2 _ _ (by omega) ⟨SR5, b1, b2.trans (zI_self _ _ _), zPR_t (zPR_t pR3 (zPR_k (zK_I _ 14 _) (by simp))) b3⟩ nX3.2.1 pX3)
      · rw [n1, n2, zB_some, zB_some, if_pos zn00]
        have pX3 : zPX x SX SX3 := zPX_t pX2 ⟨zK_mono nk1 (by simp) (by simp), fun j hj => by rw [nk1.2.1 901 (by simp)]⟩
        have pR3 : zPR p x SR (zA SR3 6 (x + 1) v2) := zPR_t pR2 (zPR_t (zPR_k nk2 (by simp)) (zPR_6 _ (by omega) _))
        have f14 : 0 ≤ (zA SR3 6 (x + 1) v2).1 14 := h14 (a1 + 1) SR3 (by omega) n4
        rw [r_takes_f f14, zU_some]
        obtain ⟨SR5, b1, b2, b3⟩ := rC_f (x := x) (p := p) f14
        exact Or.inr (fault (a1 + 1) _ _ (by omega) ⟨SR5, b1, b2.trans n4, zPR_t pR3 b3⟩ n3 pX3)
    · rw [if_neg c1, if_neg (fun y => c1 (q44.mpr y)), zB_some, if_pos zn00, zU_some]
      obtain ⟨SR5, b1, b2, b3⟩ := rB_f (x := x) (p := p) (S := zI (zA SR1 6 x v1) 14 (Int32.ofNat a1)) (by rw [zI_self]; exact zo_0 (by omega))
      exact Or.inr (fault a1 _ _ (by omega) ⟨SR5, b1, b2.trans (zI_self _ _ _), zPR_t (zPR_t pR1 (zPR_k (zK_I _ 14 _) (by simp))) b3⟩ mX1.2.1 pX1)
  · rw [m1, m2, zB_some, zB_some, if_pos zn00]
    obtain ⟨SR5, b1, b2, b3⟩ := rA_f (x := x) (p := p) (h14 a SR1 (by omega) m4) v1
    exact Or.inr (fault a _ _ (by omega) ⟨SR5, b1, b2.trans m4, zPR_t (zPR_k mk2 (by simp)) b3⟩ m3 ⟨zK_mono mk1 (by simp) (by simp), fun j hj => by rw [mk1.2.1 901 (by simp)]⟩)

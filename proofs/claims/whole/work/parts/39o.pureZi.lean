-- place
/-- the two answers of a reading: a new PLACE of c cells, or a FAULT at q -/
def zPlOk (p t : Nat) (SX SR SX1 SR1 : zSt) (c : Nat) (b : Int32) : Prop :=
  1 ≤ c ∧ c ≤ 12 ∧ (0 ≤ b ∧ b ≤ 9) ∧ zKeep [1102, 904] [901, 902, 903] SX SX1 ∧ zKeep [2, 3, 13, 14] [4, 5, 6] SR SR1 ∧ SX1.1 904 = Int32.ofNat (p + 1) ∧ SR1.1 3 = Int32.ofNat (p + 1) ∧ SR1.1 2 = 0 ∧
  (∀ q, SX1.2.1 902 q = if q = p then Int32.ofNat c else SX.2.1 902 q) ∧ (∀ q, SX1.2.1 903 q = if q = p then b else SX.2.1 903 q) ∧ SR1.2.1 4 p = Int32.ofNat c ∧ (∀ q, ¬ q = p → SR1.2.1 4 q = SR.2.1 4 q) ∧ (∀ q, SR1.2.1 5 q = if q = p then b else SR.2.1 5 q) ∧
  (∀ j, j < 36 * p → SX1.2.1 901 j = SX.2.1 901 j ∧ SR1.2.1 6 j = SR.2.1 6 j) ∧ ∀ i w, i < c → w < 3 → SX1.2.1 901 (36 * p + 3 * i + w) = SR1.2.1 6 (36 * p + 3 * i + w) ∧ rVal (Int32.ofNat w) (SX1.2.1 901 (36 * p + 3 * i + w))
def zPlNo (p : Nat) (SX SR SX1 SR1 : zSt) (q : Nat) : Prop :=
  q ≤ 120 ∧ SX1.1 1102 = Int32.ofNat q ∧ SR1.1 2 = 0 ∧ zKeep [1102] [901] SX SX1 ∧ zKeep [2, 13, 14] [4, 5, 6] SR SR1 ∧ (∀ q, ¬ q = p → SR1.2.1 4 q = SR.2.1 4 q) ∧ (∀ q, ¬ q = p → SR1.2.1 5 q = SR.2.1 5 q) ∧ ∀ j, j < 36 * p → SX1.2.1 901 j = SX.2.1 901 j ∧ SR1.2.1 6 j = SR.2.1 6 j
theorem r_119_f {p : Nat} {S : zSt} {q : Nat} (hq : q ≤ 120) (h : S.1 14 = Int32.ofNat q) : fX12_place_b119 zN (Int32.ofNat p) S = some (-100 - Int32.ofNat q, zI S 2 0) := by
  unfold fX12_place_b119
  have e : (zI S 2 0).1 14 = Int32.ofNat q := by rw [zI_ne _ _ (by decide)]; exact h
  rw [zL_def, e, if_neg (Int32.not_lt.mpr (zo_0 (by omega)))]
theorem r_77_f {p : Nat} (hp : p < 6) {S : zSt} {q : Nat} (hq : q ≤ 120) (h : S.1 14 = Int32.ofNat q) : ∃ S1 : zSt, fX12_place_b77 zN (Int32.ofNat p) S = some (-100 - Int32.ofNat q, S1) ∧ S1.1 2 = 0 ∧ zKeep [2] [5] S S1 ∧ ∀ i, ¬ i = p → S1.2.1 5 i = S.2.1 5 i := by
  have h0 : 0 ≤ S.1 14 := by rw [h]; exact zo_0 (by omega)
  unfold fX12_place_b77
  rw [r_takes_f h0, zU_some, r_digit_f h0, zB_some, if_pos (zin_o (by omega) (by decide)), zL_def, zo_t (by omega), if_pos (show 0 ≤ (zA S 5 p 0).1 14 from h0), r_119_f hq (S := zA S 5 p 0) h]
  exact ⟨_, rfl, zI_self _ _ _, zK_mono (zK_trans (zK_A S 5 p 0) (zK_I _ 2 0)) (by simp) (by simp), fun i hi => by
    show (zA S 5 p 0).2.1 5 i = _
    rw [zA_get, if_neg hi]⟩
theorem e_place_loop {f g : Nat → Int32} {t : Nat} (hz : zTz f g t) {p : Nat} (hp : p < 6) (SX0 SR0 : zSt) : ∀ (c fu fu2 i a : Nat) (SX SR : zSt), i + c = 12 → 1 ≤ c → c < fu → c < fu2 → a ≤ t → zTXs f t a SX → zTRs g t a SR → SX.1 904 = Int32.ofNat p → SR.1 3 = Int32.ofNat p → SR.2.1 4 p = Int32.ofNat i → zPX (36 * p) SX0 SX → zPR p (36 * p) SR0 SR → (∀ i2 w, i2 < i → w < 3 → SX.2.1 901 (36 * p + 3 * i2 + w) = SR.2.1 6 (36 * p + 3 * i2 + w) ∧ rVal (Int32.ofNat w) (SX.2.1 901 (36 * p + 3 * i2 + w))) →
    (∃ (SX1 SR1 : zSt) (n : Nat) (b : Int32), fX8_read_b11 zN fu (Int32.ofNat i) SX = some (1, SX1) ∧ (zU (fX12_readCell zN (Int32.ofNat p) SR) fun S => fX12_place_b39 zN fu2 (Int32.ofNat p) S) = some (Int32.ofNat p, SR1) ∧ zPlOk p t SX0 SR0 SX1 SR1 n b) ∨
    (∃ (SX1 SR1 : zSt) (q : Nat), fX8_read_b11 zN fu (Int32.ofNat i) SX = some (0, SX1) ∧ (zU (fX12_readCell zN (Int32.ofNat p) SR) fun S => fX12_place_b39 zN fu2 (Int32.ofNat p) S) = some (-100 - Int32.ofNat q, SR1) ∧ zPlNo p SX0 SR0 SX1 SR1 q) := by
  have ht := hz.1
  intro c
  induction c with
  | zero => intro fu fu2 i a SX SR _ h; exact absurd h (by omega)
  | succ c ih =>
    intro fu fu2 i a SX SR h1 h1b h2 h3 ha hX hR h9 hr3 h4 pX pR hv
    obtain _ | fu := fu
    · exact absurd h2 (by omega)
    obtain _ | fu2 := fu2
    · exact absurd h3 (by omega)
    have e12 : (12 ≤ Int32.ofNat i) = (12 ≤ i) := zo_le (a := 12) (by omega) (by omega)
    have esl : fX8_slot (Int32.ofNat p) (Int32.ofNat i) = some (Int32.ofNat (36 * p + 3 * i)) := by
      unfold fX8_slot
      have := zslot p i 0
      rw [show (Int32.ofNat p * 12 + Int32.ofNat i) * 3 + Int32.ofNat 0 = (Int32.ofNat p * 12 + Int32.ofNat i) * 3 from Int32.add_zero _] at this
      rw [this]
      rfl
    have z7 : zin (Int32.ofNat p) 7 := zin_o (by omega) (by decide)
    rw [fX8_read_b11, zi_of e12, if_neg (by omega), h9, esl, zU_some]
    -- behind a fault
    have fail : ∀ (q : Nat) (SX1 SR1 : zSt), q ≤ 120 → SX1.1 1102 = Int32.ofNat q → SR1.1 14 = Int32.ofNat q → zPX (36 * p) SX0 SX1 → zPR p (36 * p) SR0 SR1 → ∃ (SR2 : zSt), fX12_place_b39 zN (fu2 + 1) (Int32.ofNat p) SR1 = some (-100 - Int32.ofNat q, SR2) ∧ zPlNo p SX0 SR0 SX1 SR2 q := fun q SX1 SR1 hq b1 b2 b3 b4 => by
      have h14 : 0 ≤ SR1.1 14 := by rw [b2]; exact zo_0 (by omega)
      obtain ⟨SR2, d1, d2, d3, d4⟩ := r_77_f hp hq b2
      refine ⟨SR2, ?_, hq, b1, d2, b3.1, zK_mono (zK_trans b4.1 d3) (by simp) (by simp), fun i hi => ?_, fun i hi => ?_, fun j hj => ⟨b3.2 j hj, ?_⟩⟩
      · rw [fX12_place_b39]
        unfold fX12_isHere
        rw [if_pos h14, zB_some, if_pos zn00, d1]
      · rw [d3.2.1 4 (by simp)]; exact b4.2.1 i hi
      · rw [d4 i hi, b4.1.2.1 5 (by simp)]
      · rw [d3.2.1 6 (by simp)]; exact b4.2.2 j hj
    have fail77 : ∀ (q : Nat) (SX1 SR1 : zSt), q ≤ 120 → SX1.1 1102 = Int32.ofNat q → SR1.1 14 = Int32.ofNat q → zPX (36 * p) SX0 SX1 → zPR p (36 * p) SR0 SR1 → ∃ (SR2 : zSt), (zB (fX12_digit SR1) fun r7 S8 => if zin (Int32.ofNat p) 7 then zL (zA S8 5 (Int32.toNatClampNeg (Int32.ofNat p)) r7) fun S11 => if 0 ≤ S11.1 14 then fX12_place_b119 zN (Int32.ofNat p) S11 else if S11.1 2 ≤ S11.1 13 then fX12_place_b119 zN (Int32.ofNat p) S11 else zL (zI S11 14 (S11.1 13)) fun S14 => fX12_place_b119 zN (Int32.ofNat p) S14 else none) = some (-100 - Int32.ofNat q, SR2) ∧ zPlNo p SX0 SR0 SX1 SR2 q := fun q SX1 SR1 hq b1 b2 b3 b4 => by
      have h14 : 0 ≤ SR1.1 14 := by rw [b2]; exact zo_0 (by omega)
      refine ⟨zI (zA SR1 5 p 0) 2 0, ?_, hq, b1, zI_self _ _ _, b3.1, ?_, fun i hi => ?_, fun i hi => ?_, fun j hj => ⟨b3.2 j hj, ?_⟩⟩
      · rw [r_digit_f h14, zB_some, if_pos z7, zL_def, zo_t (by omega), if_pos (show 0 ≤ (zA SR1 5 p 0).1 14 from h14), r_119_f hq (S := zA SR1 5 p 0) b2]
      · exact zK_mono (zK_trans b4.1 (zK_trans (zK_A SR1 5 p 0) (zK_I _ 2 0))) (by simp) (by simp)
      · show (zA SR1 5 p 0).2.1 4 i = _
        rw [zA_oth _ _ _ _ (by decide)]; exact b4.2.1 i hi
      · show (zA SR1 5 p 0).2.1 5 i = _
        rw [zA_get, if_neg hi, b4.1.2.1 5 (by simp)]
      · show (zA SR1 5 p 0).2.1 6 j = _
        rw [zA_oth _ _ _ _ (by decide)]; exact b4.2.2 j hj
    rcases e_cell hz ha hX hR hp (by omega : i < 12) h4 with ⟨a2, SX1, SR1, m1, m2, ma, mX, mR, mk1, mk2, m4, mv⟩ | ⟨q, SX1, SR1, m1, m2, mq, m3, m5, mk1, mk2⟩
    · have pX1 : zPX (36 * p) SX0 SX1 := zPX_t pX (zPX_m mk1 (by omega))
      have pR1 : zPR p (36 * p) SR0 SR1 := zPR_t pR (zPR_m mk2 (by omega))
      have hv1 : ∀ i2 w, i2 < i + 1 → w < 3 → SX1.2.1 901 (36 * p + 3 * i2 + w) = SR1.2.1 6 (36 * p + 3 * i2 + w) ∧ rVal (Int32.ofNat w) (SX1.2.1 901 (36 * p + 3 * i2 + w)) := fun i2 w hi2 hw => by
        by_cases e : i2 = i
        · rw [e]; exact mv w hw
        · rw [mk1.2 _ (by omega), mk2.2.2 _ (by omega)]
          exact hv i2 w (by omega) hw
      have h91 : SX1.1 904 = Int32.ofNat p := (mk1.1.1 904 (by simp)).trans h9
      have hr31 : SR1.1 3 = Int32.ofNat p := (mk2.1.1 3 (by simp)).trans hr3
      have e59 := zSb_eq hz a2 (c := 59) (by decide) (by decide)
      have e47 := zSb_eq hz a2 (c := 47) (by decide) (by decide)
      rw [m1, m2, zB_some, if_neg zn10, zU_some, x_pass ht ma mX, zo_s]
      rw [fX12_place_b39, r_isHere ht ma mR (by decide), zB_some]
      by_cases c47 : zSb f t a2 = 47
      · have n59 : ¬ zSb g t a2 = 59 := fun e => by rw [e47.mp c47] at e; exact absurd e (by decide)
        have hat : a2 < t := zSb_lt (by rw [c47]; decide)
        have mX2 := zTXs_s mX (a2 + 1)
        have mR2 := zTRs_s mR (a2 + 1)
        rw [if_pos c47, zB_some, if_neg zn10, if_neg n59, if_pos zn00]
        unfold fX12_place_b77 fX8_readBelow
        rw [r_takes ht ma mR (by decide), if_pos (e47.mp c47), zU_some, x_digit ht (by omega) mX2, r_digit ht (by omega) mR2]
        by_cases d : 48 ≤ zSb f t (a2 + 1) ∧ zSb f t (a2 + 1) ≤ 57
        · have dR := (zSb_dig hz (a2 + 1)).1.mp d
          have eR := (zSb_dig hz (a2 + 1)).2 d
          have hat2 : a2 + 1 < t := zSb_lt (Int32.le_trans (by decide) d.1)
          obtain ⟨b0, b9, bn⟩ := zdg4 d
          have mX3 := zTXs_s mX2 (a2 + 2)
          have mR3 := zTRs_s mR2 (a2 + 2)
          have eX : (zI (zI SX1 1102 (Int32.ofNat (a2 + 1))) 1102 (Int32.ofNat (a2 + 1 + 1))).1 904 = Int32.ofNat p := h91
          rw [if_pos d, if_pos dR, zB_some, zB_some, if_neg bn, if_pos z7, zL_def, zo_t (by omega), ← eR]
          unfold fX10_isAtEnd
          rw [mX3.1, mX3.2.1]
          have eR14 : (zA (zI (zI SR1 13 (Int32.ofNat (a2 + 1))) 13 (Int32.ofNat (a2 + 1 + 1))) 5 p (zSb f t (a2 + 1) - 48)).1 14 = -1 := mR3.2.2.1
          have eR2 : (zA (zI (zI SR1 13 (Int32.ofNat (a2 + 1))) 13 (Int32.ofNat (a2 + 1 + 1))) 5 p (zSb f t (a2 + 1) - 48)).1 2 = Int32.ofNat t := mR3.1
          have eR13 : (zA (zI (zI SR1 13 (Int32.ofNat (a2 + 1))) 13 (Int32.ofNat (a2 + 1 + 1))) 5 p (zSb f t (a2 + 1) - 48)).1 13 = Int32.ofNat (a2 + 2) := mR3.2.1
          rw [eR14, eR2, eR13, if_neg (show ¬ (0 : Int32) ≤ -1 by decide), zi_le (by omega) (by omega)]
          have K2 : zKeep [13] [5] SR1 (zA (zI (zI SR1 13 (Int32.ofNat (a2 + 1))) 13 (Int32.ofNat (a2 + 1 + 1))) 5 p (zSb f t (a2 + 1) - 48)) := zK_mono (zK_trans (zK_trans (zK_I SR1 13 _) (zK_I _ 13 _)) (zK_A _ 5 p _)) (by simp) (by simp)
          have KX : zKeep [1102] [] SX1 (zI (zI SX1 1102 (Int32.ofNat (a2 + 1))) 1102 (Int32.ofNat (a2 + 1 + 1))) := zK_t (zK_I _ _ _) (zK_I _ _ _)
          by_cases w : t ≤ a2 + 2
          · have nl : ¬ Int32.ofNat (a2 + 2) < Int32.ofNat t := by rw [zo_lt (by omega) (by omega)]; omega
            have z6 : zin (Int32.ofNat p) 6 := zin_o (by omega) (by decide)
            rw [if_neg nl, zB_some, if_neg zn10, eX, if_pos z6, zL_def, zo_t (by omega), if_pos w]
            unfold fX12_place_b119
            refine Or.inl ?_
            refine ⟨zI (zA (zA (zI (zI SX1 1102 (Int32.ofNat (a2 + 1))) 1102 (Int32.ofNat (a2 + 1 + 1))) 902 p (Int32.ofNat (i + 1))) 903 p (zSb f t (a2 + 1) - 48)) 904 (Int32.ofNat (p + 1)), zI (zI (zA (zI (zI SR1 13 (Int32.ofNat (a2 + 1))) 13 (Int32.ofNat (a2 + 1 + 1))) 5 p (zSb f t (a2 + 1) - 48)) 2 0) 3 (Int32.ofNat (p + 1)), i + 1, zSb f t (a2 + 1) - 48, ?_, ?_, by omega, by omega, ⟨b0, b9⟩, ?_, ?_, zI_self _ _ _, zI_self _ _ _, ?_, fun q => ?_, fun q => ?_, ?_, fun q hq => ?_, fun q => ?_, fun j hj => ⟨?_, ?_⟩, fun i2 w2 hi2 hw2 => ?_⟩
            · rw [show (zA (zI (zI SX1 1102 (Int32.ofNat (a2 + 1))) 1102 (Int32.ofNat (a2 + 1 + 1))) 902 p (Int32.ofNat (i + 1))).1 904 = Int32.ofNat p from h91, if_pos z6, zL_def, zL_def, zo_t (by omega), zB_some, if_pos (show zbit (1 : Int32) from Or.inr rfl)]
              rw [show (zA (zA (zI (zI SX1 1102 (Int32.ofNat (a2 + 1))) 1102 (Int32.ofNat (a2 + 1 + 1))) 902 p (Int32.ofNat (i + 1))) 903 p (zSb f t (a2 + 1) - 48)).1 904 = Int32.ofNat p from h91, zo_s]
            · rw [zL_def, zL_def, show (zI (zA (zI (zI SR1 13 (Int32.ofNat (a2 + 1))) 13 (Int32.ofNat (a2 + 1 + 1))) 5 p (zSb f t (a2 + 1) - 48)) 2 0).1 14 = -1 from mR3.2.2.1, if_pos (show (-1 : Int32) < 0 by decide), show (zI (zA (zI (zI SR1 13 (Int32.ofNat (a2 + 1))) 13 (Int32.ofNat (a2 + 1 + 1))) 5 p (zSb f t (a2 + 1) - 48)) 2 0).1 3 = Int32.ofNat p from hr31, zo_s]
            · exact zK_mono (zK_trans pX1.1 (zK_trans KX (zK_trans (zK_A _ 902 p (Int32.ofNat (i + 1))) (zK_trans (zK_A _ 903 p (zSb f t (a2 + 1) - 48)) (zK_I _ 904 (Int32.ofNat (p + 1))))))) (by simp) (by simp)
            · exact zK_mono (zK_trans pR1.1 (zK_trans K2 (zK_trans (zK_I _ 2 0) (zK_I _ 3 (Int32.ofNat (p + 1)))))) (by simp) (by simp)
            · rw [zI_ne _ _ (by decide)]; exact zI_self _ _ _
            · show (zA (zA (zI (zI SX1 1102 (Int32.ofNat (a2 + 1))) 1102 (Int32.ofNat (a2 + 1 + 1))) 902 p (Int32.ofNat (i + 1))) 903 p (zSb f t (a2 + 1) - 48)).2.1 902 q = _
              rw [zA_oth _ _ _ _ (by decide), zA_get]
              show (if q = p then _ else SX1.2.1 902 q) = _
              rw [pX1.1.2.1 902 (by simp)]
            · show (zA (zA (zI (zI SX1 1102 (Int32.ofNat (a2 + 1))) 1102 (Int32.ofNat (a2 + 1 + 1))) 902 p (Int32.ofNat (i + 1))) 903 p (zSb f t (a2 + 1) - 48)).2.1 903 q = _
              rw [zA_get, zA_oth _ _ _ _ (by decide)]
              show (if q = p then _ else SX1.2.1 903 q) = _
              rw [pX1.1.2.1 903 (by simp)]
            · show (zA (zI (zI SR1 13 (Int32.ofNat (a2 + 1))) 13 (Int32.ofNat (a2 + 1 + 1))) 5 p (zSb f t (a2 + 1) - 48)).2.1 4 p = _
              rw [zA_oth _ _ _ _ (by decide)]; exact m4
            · show (zA (zI (zI SR1 13 (Int32.ofNat (a2 + 1))) 13 (Int32.ofNat (a2 + 1 + 1))) 5 p (zSb f t (a2 + 1) - 48)).2.1 4 q = _
              rw [zA_oth _ _ _ _ (by decide)]; exact pR1.2.1 q hq
            · show (zA (zI (zI SR1 13 (Int32.ofNat (a2 + 1))) 13 (Int32.ofNat (a2 + 1 + 1))) 5 p (zSb f t (a2 + 1) - 48)).2.1 5 q = _
              rw [zA_get]
              show (if q = p then _ else SR1.2.1 5 q) = _
              rw [pR1.1.2.1 5 (by simp)]
            · exact pX1.2 j hj
            · exact pR1.2.2 j hj
            · exact hv1 i2 w2 hi2 hw2
          · have nl : Int32.ofNat (a2 + 2) < Int32.ofNat t := by rw [zo_lt (by omega) (by omega)]; omega
            rw [if_pos nl, zB_some, if_pos zn00, if_neg w, zL_def]
            refine Or.inr ⟨_, _, a2 + 2, rfl, r_119_f (by omega) (zI_self _ _ _), by omega, mX3.2.1, zI_self _ _ _, zK_mono (zK_trans pX1.1 KX) (by simp) (by simp), zK_mono (zK_trans pR1.1 (zK_trans K2 (zK_trans (zK_I _ 14 (Int32.ofNat (a2 + 2))) (zK_I _ 2 0)))) (by simp) (by simp), fun i hi => ?_, fun i hi => ?_, fun j hj => ⟨pX1.2 j hj, pR1.2.2 j hj⟩⟩
            · exact pR1.2.1 i hi
            · show (zA (zI (zI SR1 13 (Int32.ofNat (a2 + 1))) 13 (Int32.ofNat (a2 + 1 + 1))) 5 p (zSb f t (a2 + 1) - 48)).2.1 5 i = _
              rw [zA_get, if_neg hi]
              exact congrFun (pR1.1.2.1 5 (by simp)) i
        · have dR : ¬ (48 ≤ zSb g t (a2 + 1) ∧ zSb g t (a2 + 1) ≤ 57) := fun y => d ((zSb_dig hz (a2 + 1)).1.mpr y)
          rw [if_neg d, if_neg dR, zB_some, zB_some, if_pos (show (-1 : Int32) < 0 by decide), if_pos z7, zL_def, zo_t (by omega)]
          have e14 : (zA (zI (zI SR1 13 (Int32.ofNat (a2 + 1))) 14 (Int32.ofNat (a2 + 1))) 5 p 0).1 14 = Int32.ofNat (a2 + 1) := by
            show (zI (zI SR1 13 (Int32.ofNat (a2 + 1))) 14 (Int32.ofNat (a2 + 1))).1 14 = _
            exact zI_self _ _ _
          rw [e14, if_pos (zo_0 (by omega)), r_119_f (by omega) e14]
          refine Or.inr ⟨_, _, a2 + 1, rfl, rfl, by omega, mX2.2.1, zI_self _ _ _, zK_mono (zK_trans pX1.1 (zK_I SX1 1102 _)) (by simp) (by simp), zK_mono (zK_trans pR1.1 (zK_trans (zK_I _ 13 (Int32.ofNat (a2 + 1))) (zK_trans (zK_I _ 14 (Int32.ofNat (a2 + 1))) (zK_trans (zK_A _ 5 p 0) (zK_I _ 2 0))))) (by simp) (by simp), fun i hi => pR1.2.1 i hi, fun i hi => ?_, fun j hj => ⟨pX1.2 j hj, pR1.2.2 j hj⟩⟩
          show (zA (zI (zI SR1 13 (Int32.ofNat (a2 + 1))) 14 (Int32.ofNat (a2 + 1))) 5 p 0).2.1 5 i = _
          rw [zA_get, if_neg hi]
          exact congrFun (pR1.1.2.1 5 (by simp)) i
      · have n47 : ¬ zSb g t a2 = 47 := fun e => c47 (e47.mpr e)
        rw [if_neg c47, zB_some, if_pos zn00]
        have stop : ∃ SR2 : zSt, fX12_place_b77 zN (Int32.ofNat p) SR1 = some (-100 - Int32.ofNat a2, SR2) ∧ zPlNo p SX0 SR0 SX1 SR2 a2 := by
          unfold fX12_place_b77
          rw [r_takes ht ma mR (by decide), if_neg n47, zU_some]
          exact fail77 a2 SX1 (zI SR1 14 (Int32.ofNat a2)) (by omega) mX.2.1 (zI_self _ _ _) pX1 (zPR_t pR1 (zPR_k (zK_I _ 14 _) (by simp)))
        obtain ⟨SR2, st1, st2⟩ := stop
        have ei : (Int32.ofNat (i + 1) = 12) = (i + 1 = 12) := zo_eq (b := 12) (by omega) (by omega)
        have e12b : (12 ≤ Int32.ofNat (i + 1)) = (12 ≤ i + 1) := zo_le (a := 12) (by omega) (by omega)
        by_cases c59 : zSb f t a2 = 59
        · rw [if_pos (e59.mp c59), if_neg zn10, if_pos z7, zo_t (by omega), m4, zi_of e12b, zi_of ei]
          by_cases w : i + 1 = 12
          · rw [if_pos w, if_pos (by omega), st1]
            exact Or.inr ⟨_, _, a2, rfl, rfl, st2⟩
          · have hat : a2 < t := zSb_lt (by rw [c59]; decide)
            rw [if_neg w, if_neg (by omega), x_pass ht ma mX, if_pos c59, zB_some, if_neg zn10, zL_def, mR.2.1, zo_s]
            exact ih fu fu2 (i + 1) (a2 + 1) (zI SX1 1102 (Int32.ofNat (a2 + 1))) (zI SR1 13 (Int32.ofNat (a2 + 1))) (by omega) (by omega) (by omega) (by omega) (by omega) (zTXs_s mX _) (zTRs_s mR _) h91 hr31 m4 (zPX_t pX1 ⟨zK_mono (zK_I _ _ _) (by simp) (by simp), fun j _ => rfl⟩) (zPR_t pR1 (zPR_k (zK_I _ 13 _) (by simp))) hv1
        · have n59 : ¬ zSb g t a2 = 59 := fun e => c59 (e59.mpr e)
          rw [if_neg n59, if_pos zn00, st1, zi_of ei]
          by_cases w : i + 1 = 12
          · rw [if_pos w]
            exact Or.inr ⟨_, _, a2, rfl, rfl, st2⟩
          · rw [if_neg w, x_pass ht ma mX, if_neg c59, zB_some, if_pos zn00]
            exact Or.inr ⟨_, _, a2, rfl, rfl, st2⟩
    · obtain ⟨SR2, d1, d2⟩ := fail q SX1 SR1 mq m3 m5 (zPX_t pX (zPX_m mk1 (by omega))) (zPR_t pR (zPR_m mk2 (by omega)))
      rw [m1, m2, zB_some, if_pos zn00, zU_some, d1]
      exact Or.inr ⟨_, _, q, rfl, rfl, d2⟩

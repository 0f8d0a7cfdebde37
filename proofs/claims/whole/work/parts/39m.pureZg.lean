-- the tape
def zTXs (f : Nat → Int32) (t a : Nat) (S : zSt) : Prop := S.1 1101 = Int32.ofNat t ∧ S.1 1102 = Int32.ofNat a ∧ S.2.1 1100 = f
def zTRs (g : Nat → Int32) (t a : Nat) (S : zSt) : Prop := S.1 2 = Int32.ofNat t ∧ S.1 13 = Int32.ofNat a ∧ S.1 14 = -1 ∧ S.2.1 1 = g
def zSb (f : Nat → Int32) (t a : Nat) : Int32 := if a < t then f a else -1
def zTz (f g : Nat → Int32) (t : Nat) : Prop := t ≤ 120 ∧ ∀ i, i < t → zbyte (f i) (g i)
theorem zby_eq {f g c : Int32} (h : zbyte f g) (h0 : 0 ≤ c) (h1 : c ≤ 127) : f = c ↔ g = c := by
  unfold zbyte at h
  constructor
  · intro e
    grind
  · intro e
    grind
theorem zSb_eq {f g : Nat → Int32} {t : Nat} (h : zTz f g t) (a : Nat) {c : Int32} (h0 : 0 ≤ c) (h1 : c ≤ 127) : zSb f t a = c ↔ zSb g t a = c := by
  unfold zSb
  by_cases q : a < t
  · rw [if_pos q, if_pos q]
    exact zby_eq (h.2 a q) h0 h1
  · rw [if_neg q, if_neg q]
theorem zby_dig {f g : Int32} (h : zbyte f g) : ((48 ≤ f ∧ f ≤ 57) ↔ (48 ≤ g ∧ g ≤ 57)) ∧ ((48 ≤ f ∧ f ≤ 57) → f = g) := by
  unfold zbyte at h
  refine ⟨⟨fun e => ?_, fun e => ?_⟩, fun e => ?_⟩
  · grind
  · grind
  · grind
theorem zSb_dig {f g : Nat → Int32} {t : Nat} (h : zTz f g t) (a : Nat) : ((48 ≤ zSb f t a ∧ zSb f t a ≤ 57) ↔ (48 ≤ zSb g t a ∧ zSb g t a ≤ 57)) ∧ ((48 ≤ zSb f t a ∧ zSb f t a ≤ 57) → zSb f t a = zSb g t a) := by
  unfold zSb
  by_cases q : a < t
  · rw [if_pos q, if_pos q]
    exact zby_dig (h.2 a q)
  · rw [if_neg q, if_neg q]
    exact ⟨Iff.rfl, fun _ => rfl⟩
theorem zSb_lt {f : Nat → Int32} {t a : Nat} (h : 0 ≤ zSb f t a) : a < t := by
  unfold zSb at h
  refine Classical.byContradiction (fun q => ?_)
  rw [if_neg q] at h
  exact absurd h (by decide)
theorem x_seen {f : Nat → Int32} {t a : Nat} (ht : t ≤ 120) (ha : a ≤ t) {S : zSt} (h : zTXs f t a S) : fX10_seen S = some (zSb f t a, S) := by
  obtain ⟨h1, h2, h3⟩ := h
  unfold fX10_seen zSb
  rw [h1, h2, if_neg (Int32.not_lt.mpr (zo_0 (by omega))), zi_le (by omega) (by omega)]
  by_cases q : a < t
  · rw [if_neg (by omega), if_pos (zin_o (by omega) (by decide)), zo_t (by omega), h3, if_pos q]
  · rw [if_pos (by omega), if_neg q]
theorem zTXs_s {f : Nat → Int32} {t a : Nat} {S : zSt} (h : zTXs f t a S) (b : Nat) : zTXs f t b (zI S 1102 (Int32.ofNat b)) := ⟨by rw [zI_ne _ _ (by decide)]; exact h.1, zI_self _ _ _, h.2.2⟩
theorem zTRs_s {g : Nat → Int32} {t a : Nat} {S : zSt} (h : zTRs g t a S) (b : Nat) : zTRs g t b (zI S 13 (Int32.ofNat b)) := ⟨by rw [zI_ne _ _ (by decide)]; exact h.1, zI_self _ _ _, by rw [zI_ne _ _ (by decide)]; exact h.2.2.1, h.2.2.2⟩
theorem zTXs_K {f : Nat → Int32} {t a : Nat} {S S1 : zSt} {I A : List Nat} (h : zTXs f t a S) (k : zKeep I A S S1) (h1 : ∀ j ∈ [1101, 1102], j ∉ I) (h2 : 1100 ∉ A) : zTXs f t a S1 := ⟨(k.1 1101 (h1 _ (by simp))).trans h.1, (k.1 1102 (h1 _ (by simp))).trans h.2.1, (k.2.1 1100 h2).trans h.2.2⟩
theorem zTRs_K {g : Nat → Int32} {t a : Nat} {S S1 : zSt} {I A : List Nat} (h : zTRs g t a S) (k : zKeep I A S S1) (h1 : ∀ j ∈ [2, 13, 14], j ∉ I) (h2 : 1 ∉ A) : zTRs g t a S1 := ⟨(k.1 2 (h1 _ (by simp))).trans h.1, (k.1 13 (h1 _ (by simp))).trans h.2.1, (k.1 14 (h1 _ (by simp))).trans h.2.2.1, (k.2.1 1 h2).trans h.2.2.2⟩
theorem x_pass {f : Nat → Int32} {t a : Nat} (ht : t ≤ 120) (ha : a ≤ t) {S : zSt} (h : zTXs f t a S) (c : Int32) : fX10_pass c S = if zSb f t a = c then some (1, zI S 1102 (Int32.ofNat (a + 1))) else some (0, S) := by
  unfold fX10_pass
  rw [x_seen ht ha h, zB_some, zL_def, h.2.1, zo_s]
theorem x_digit {f : Nat → Int32} {t a : Nat} (ht : t ≤ 120) (ha : a ≤ t) {S : zSt} (h : zTXs f t a S) : fX10_digit S = if 48 ≤ zSb f t a ∧ zSb f t a ≤ 57 then some (zSb f t a - 48, zI S 1102 (Int32.ofNat (a + 1))) else some (-1, S) := by
  unfold fX10_digit
  rw [x_seen ht ha h, zB_some]
  by_cases q : zSb f t a < 48
  · have w : ¬ (48 ≤ zSb f t a ∧ zSb f t a ≤ 57) := fun x => Int32.not_le.mpr q x.1
    rw [if_pos q, if_neg w]
  · rw [if_neg q, zL_def, h.2.1, zo_s]
    by_cases r : zSb f t a ≤ 57
    · rw [if_pos r, if_pos ⟨Int32.not_lt.mp q, r⟩]
    · rw [if_neg r, if_neg (fun x => r x.2)]
theorem zdg9 (v : Int32) : (0 ≤ v - 48 ∧ v - 48 ≤ 9) ↔ (48 ≤ v ∧ v ≤ 57) := by
  constructor
  · intro h; grind
  · intro h; grind
theorem r_look {g : Nat → Int32} {t a : Nat} (ht : t ≤ 120) (ha : a ≤ t) {S : zSt} (h : S.1 2 = Int32.ofNat t ∧ S.1 13 = Int32.ofNat a ∧ S.2.1 1 = g) : fX12_look S = some (zSb g t a, S) := by
  obtain ⟨h1, h2, h4⟩ := h
  unfold fX12_look zSb
  rw [h1, h2, zi_le (by omega) (by omega)]
  by_cases q : a < t
  · rw [if_neg (by omega), if_pos (zin_o (by omega) (by decide)), zo_t (by omega), h4, if_pos q]
  · rw [if_pos (by omega), if_neg q]
theorem r_isHere {g : Nat → Int32} {t a : Nat} (ht : t ≤ 120) (ha : a ≤ t) {S : zSt} (h : zTRs g t a S) {c : Int32} (hc : 0 ≤ c) : fX12_isHere c S = some (if zSb g t a = c then 1 else 0, S) := by
  obtain ⟨h1, h2, h3, h4⟩ := h
  unfold fX12_isHere zSb
  rw [h1, h2, h3, if_neg (show ¬ (0 : Int32) ≤ -1 by decide), zi_le (by omega) (by omega)]
  by_cases q : a < t
  · rw [if_neg (by omega), if_pos (zin_o (by omega) (by decide)), zo_t (by omega), h4, if_pos q]
    split <;> rfl
  · have w : ¬ (-1 : Int32) = c := fun e => by rw [← e] at hc; exact absurd hc (by decide)
    rw [if_pos (by omega), if_neg q, if_neg w]
theorem r_takes {g : Nat → Int32} {t a : Nat} (ht : t ≤ 120) (ha : a ≤ t) {S : zSt} (h : zTRs g t a S) {c : Int32} (hc : 0 ≤ c) : fX12_takes c S = if zSb g t a = c then some (zI S 13 (Int32.ofNat (a + 1))) else some (zI S 14 (Int32.ofNat a)) := by
  unfold fX12_takes
  rw [r_isHere ht ha h hc, zB_some]
  by_cases q : zSb g t a = c
  · rw [if_pos q, if_neg zn10, if_pos q, zL_def, h.2.1, zo_s]
  · rw [if_neg q, if_pos zn00, if_neg q, h.2.2.1, if_neg (show ¬ (0 : Int32) ≤ -1 by decide), zL_def, h.2.1]
theorem r_digit {g : Nat → Int32} {t a : Nat} (ht : t ≤ 120) (ha : a ≤ t) {S : zSt} (h : zTRs g t a S) : fX12_digit S = if 48 ≤ zSb g t a ∧ zSb g t a ≤ 57 then some (zSb g t a - 48, zI S 13 (Int32.ofNat (a + 1))) else some (0, zI S 14 (Int32.ofNat a)) := by
  have hd : ∀ v : Int32, (0 ≤ v - 48 ∧ v - 48 ≤ 9) ↔ (48 ≤ v ∧ v ≤ 57) := fun v => zdg9 v
  have b : ∀ v, fX12_digit_b36 v S = if 0 ≤ v ∧ v ≤ 9 then some (v, zI S 13 (Int32.ofNat (a + 1))) else some (0, zI S 14 (Int32.ofNat a)) := fun v => by
    unfold fX12_digit_b36
    rw [e_in, zU_some, zL_def, zL_def, h.2.1, zo_s]
    by_cases q : 0 ≤ v ∧ v ≤ 9
    · rw [if_pos q, if_neg zn10, if_pos q]
    · rw [if_neg q, if_pos zn00, if_neg q]
  unfold fX12_digit
  rw [h.2.2.1, if_pos (show (-1 : Int32) < 0 by decide), b, b, h.1, h.2.1, zi_le (by omega) (by omega)]
  unfold zSb
  by_cases q : a < t
  · rw [if_neg (by omega), if_pos (zin_o (by omega) (by decide)), zo_t (by omega), h.2.2.2, if_pos q]
    by_cases r : 48 ≤ g a ∧ g a ≤ 57
    · rw [if_pos ((hd _).mpr r), if_pos r]
    · rw [if_neg (fun x => r ((hd _).mp x)), if_neg r]
  · rw [if_pos (by omega), if_neg q, if_neg (by decide), if_neg (by decide)]
-- behind a fault
theorem r_takes_f {S : zSt} (h : 0 ≤ S.1 14) (c : Int32) : fX12_takes c S = some S := by
  unfold fX12_takes fX12_isHere
  rw [if_pos h, zB_some, if_pos zn00, if_pos h]
theorem r_digit_f {S : zSt} (h : 0 ≤ S.1 14) : fX12_digit S = some (0, S) := by
  unfold fX12_digit
  rw [if_neg (Int32.not_lt.mpr h)]
theorem r_num_f {S : zSt} (h : 0 ≤ S.1 14) : fX12_readNumber zN S = some (0, S) := by
  show fX12_readNumber_b7 zN (999999 + 1) (S.1 13) 0 S = _
  rw [fX12_readNumber_b7, if_pos h]
  unfold fX12_readNumber_b85
  rw [if_pos h]
-- a number
theorem x_putv {j : Nat} (h : j < 216) (v : Int32) (S : zSt) : fX8_putValue (Int32.ofNat j) v S = some (zA S 901 j v) := by
  unfold fX8_putValue
  rw [if_neg (Int32.not_lt.mpr (zo_0 (by omega))), if_neg (fun x => by have x : Int32.ofNat 216 ≤ Int32.ofNat j := x; rw [zo_le (by omega) (by omega)] at x; omega), if_pos (zin_o h (by decide)), zL_def, zo_t (by omega)]
theorem zdg1 {x : Int32} (h : 48 ≤ x ∧ x ≤ 57) : 0 ≤ x - 48 ∧ x - 48 ≤ 9 ∧ x - 48 ≤ 30 ∧ ¬ x - 48 < 0 ∧ 10 * 0 + x - 48 = x - 48 := by
  refine ⟨?_, ?_, ?_, ?_, ?_⟩
  · grind
  · grind
  · grind
  · grind
  · grind
theorem zdg2 {x y : Int32} (h : 48 ≤ x ∧ x ≤ 57) (h2 : 48 ≤ y ∧ y ≤ 57) : 0 ≤ 10 * (x - 48) + (y - 48) ∧ 10 * (x - 48) + y - 48 = 10 * (x - 48) + (y - 48) := by
  refine ⟨?_, ?_⟩
  · grind
  · grind
theorem e_measure {f g : Nat → Int32} {t a : Nat} (hz : zTz f g t) (ha : a ≤ t) {SX SR : zSt} (hX : zTXs f t a SX) (hR : zTRs g t a SR) {j : Nat} (hj : j < 216) :
    (∃ (v : Int32) (a2 : Nat) (SX1 SR1 : zSt), fX8_readMeasure (Int32.ofNat j) SX = some (1, SX1) ∧ fX12_readNumber zN SR = some (v, SR1) ∧ (0 ≤ v ∧ v ≤ 30) ∧ a2 ≤ t ∧ zTXs f t a2 SX1 ∧ zTRs g t a2 SR1 ∧ zKeep [1102] [901] SX SX1 ∧ (∀ i, SX1.2.1 901 i = if i = j then v else SX.2.1 901 i) ∧ zKeep [13] [] SR SR1) ∨
    (∃ (v : Int32) (SX1 SR1 : zSt), fX8_readMeasure (Int32.ofNat j) SX = some (0, SX1) ∧ fX12_readNumber zN SR = some (v, SR1) ∧ SX1.1 1102 = Int32.ofNat a ∧ SR1.1 14 = Int32.ofNat a ∧ zKeep [1102] [] SX SX1 ∧ zKeep [13, 14] [] SR SR1) := by
  have ht := hz.1
  unfold fX8_readMeasure fX12_readNumber
  rw [x_digit ht ha hX, hR.2.1]
  show (∃ (v : Int32) (a2 : Nat) (SX1 SR1 : zSt), _ ∧ fX12_readNumber_b7 zN (999999 + 1) _ _ _ = _ ∧ _) ∨ (∃ (v : Int32) (SX1 SR1 : zSt), _ ∧ fX12_readNumber_b7 zN (999999 + 1) _ _ _ = _ ∧ _)
  have n14 : ¬ (0 : Int32) ≤ -1 := by decide
  -- the reference's loop: one step where no digit is seen
  have stop : ∀ (fu b : Nat) (v : Int32) (S : zSt), b ≤ t → zTRs g t b S → ¬ (48 ≤ zSb g t b ∧ zSb g t b ≤ 57) → fX12_readNumber_b7 zN (fu + 1) (Int32.ofNat a) v S = fX12_readNumber_b85 zN (Int32.ofNat a) v S := fun fu b v S hb hS hd => by
    rw [fX12_readNumber_b7, hS.2.2.1, if_neg n14, hS.1, hS.2.1, zi_le (by omega) (by omega)]
    by_cases q : t ≤ b
    · rw [if_pos q]
    · rw [if_neg q]
      by_cases w : Int32.ofNat a + 2 ≤ Int32.ofNat b
      · rw [if_pos w]
      · have e : zSb g t b = g b := by unfold zSb; rw [if_pos (by omega)]
        have z : zin (Int32.ofNat b) 120 := zin_o (by omega) (by decide)
        rw [if_neg w]
        simp only [if_pos z, zL_def]
        rw [zo_t (by omega), hS.2.2.2, e_in, zU_some, ← e, if_neg hd, if_pos zn00]
  have step : ∀ (fu b : Nat) (v : Int32) (S : zSt), b < a + 2 → b ≤ t → zTRs g t b S → (48 ≤ zSb g t b ∧ zSb g t b ≤ 57) → fX12_readNumber_b7 zN (fu + 1) (Int32.ofNat a) v S = fX12_readNumber_b7 zN fu (Int32.ofNat a) (10 * v + zSb g t b - 48) (zI S 13 (Int32.ofNat (b + 1))) := fun fu b v S hb2 hb hS hd => by
    have hbt : b < t := zSb_lt (Int32.le_trans (by decide) hd.1)
    have e : zSb g t b = g b := by unfold zSb; rw [if_pos hbt]
    have w : ¬ Int32.ofNat a + 2 ≤ Int32.ofNat b := by
      show ¬ Int32.ofNat a + Int32.ofNat 2 ≤ Int32.ofNat b
      rw [zo_add, zo_le (by omega) (by omega)]
      omega
    have z : zin (Int32.ofNat b) 120 := zin_o (by omega) (by decide)
    rw [fX12_readNumber_b7, hS.2.2.1, if_neg n14, hS.1, hS.2.1, zi_le (by omega) (by omega), if_neg (by omega), if_neg w]
    simp only [if_pos z, zL_def]
    rw [zo_t (by omega), hS.2.2.2, e_in, zU_some, ← e, if_pos hd, if_neg zn10, zo_s]
  by_cases d : 48 ≤ zSb f t a ∧ zSb f t a ≤ 57
  · obtain ⟨p1, p2, p3, p4, p5⟩ := zdg1 d
    have dR := (zSb_dig hz a).1.mp d
    have eR := (zSb_dig hz a).2 d
    have hat : a < t := zSb_lt (Int32.le_trans (by decide) d.1)
    have hX1 := zTXs_s hX (a + 1)
    have hR1 := zTRs_s hR (a + 1)
    have e5 : 10 * 0 + zSb g t a - 48 = zSb f t a - 48 := by rw [← eR]; exact p5
    rw [if_pos d, zB_some, if_pos p1, step 999999 a 0 SR (by omega) ha hR dR, e5, x_digit ht (by omega) hX1]
    have nz : ∀ b : Nat, a < b → b ≤ t → ¬ Int32.ofNat b = Int32.ofNat a := fun b h1 h2 => by
      rw [zo_eq (by omega) (by omega)]
      omega
    by_cases d2 : 48 ≤ zSb f t (a + 1) ∧ zSb f t (a + 1) ≤ 57
    · obtain ⟨q1, q2, q3, q4, q5⟩ := zdg1 d2
      obtain ⟨r1, r2⟩ := zdg2 d d2
      have dR2 := (zSb_dig hz (a + 1)).1.mp d2
      have eR2 := (zSb_dig hz (a + 1)).2 d2
      have hat2 : a + 1 < t := zSb_lt (Int32.le_trans (by decide) d2.1)
      have hX2 := zTXs_s hX1 (a + 2)
      have hR2 := zTRs_s hR1 (a + 2)
      have K2 : zKeep [13] [] SR (zI (zI SR 13 (Int32.ofNat (a + 1))) 13 (Int32.ofNat (a + 2))) := zK_t (zK_I _ _ _) (zK_I _ _ _)
      have KX2 : zKeep [1102] [] SX (zI (zI SX 1102 (Int32.ofNat (a + 1))) 1102 (Int32.ofNat (a + 2))) := zK_t (zK_I _ _ _) (zK_I _ _ _)
      have e2 : 10 * (zSb f t a - 48) + zSb g t (a + 1) - 48 = 10 * (zSb f t a - 48) + (zSb f t (a + 1) - 48) := by rw [← eR2]; exact r2
      have third : fX12_readNumber_b7 zN 999998 (Int32.ofNat a) (10 * (zSb f t a - 48) + (zSb f t (a + 1) - 48)) (zI (zI SR 13 (Int32.ofNat (a + 1))) 13 (Int32.ofNat (a + 2))) = fX12_readNumber_b85 zN (Int32.ofNat a) (10 * (zSb f t a - 48) + (zSb f t (a + 1) - 48)) (zI (zI SR 13 (Int32.ofNat (a + 1))) 13 (Int32.ofNat (a + 2))) := by
        show fX12_readNumber_b7 zN (999997 + 1) _ _ _ = _
        rw [fX12_readNumber_b7, hR2.2.2.1, if_neg n14, hR2.1, hR2.2.1, zi_le (by omega) (by omega)]
        have w : Int32.ofNat a + 2 ≤ Int32.ofNat (a + 2) := by
          show Int32.ofNat a + Int32.ofNat 2 ≤ Int32.ofNat (a + 2)
          rw [zo_add]
          exact Int32.le_refl _
        rw [if_pos w]
        split <;> rfl
      have second := step 999998 (a + 1) (zSb f t a - 48) (zI SR 13 (Int32.ofNat (a + 1))) (by omega) (by omega) hR1 dR2
      rw [if_pos d2, zB_some, if_pos q1, show fX12_readNumber_b7 zN 999999 (Int32.ofNat a) (zSb f t a - 48) (zI SR 13 (Int32.ofNat (a + 1))) = _ from second, e2, third]
      unfold fX12_readNumber_b85 fX8_readMeasure_b36 fX12_readNumber_b106 fX10_back
      rw [hR2.2.2.1, if_neg n14, hR2.2.1, if_neg (nz (a + 2) (by omega) (by omega))]
      by_cases w : 10 * (zSb f t a - 48) + (zSb f t (a + 1) - 48) ≤ 30
      · rw [if_pos w, if_pos w, x_putv hj, zU_some]
        refine Or.inl ⟨_, a + 2, _, _, rfl, rfl, ⟨r1, w⟩, by omega, zTXs_K hX2 (zK_A _ 901 j _) (by simp) (by simp), hR2, zK_mono (zK_trans KX2 (zK_A _ 901 j _)) (by simp) (by simp), fun i => ?_, K2⟩
        rw [zA_get]
        rfl
      · rw [if_neg w, if_neg w, zL_def, zU_some, zL_def, hX2.2.1]
        refine Or.inr ⟨_, _, _, rfl, rfl, ?_, zI_self _ _ _, zK_t KX2 (zK_I _ _ _), zK_mono (zK_trans K2 (zK_I _ 14 _)) (by simp) (by simp)⟩
        rw [zI_self]
        show Int32.ofNat (a + 2) - Int32.ofNat 2 = _
        rw [zo_sub (by omega)]
        rfl
    · have dR2 : ¬ (48 ≤ zSb g t (a + 1) ∧ zSb g t (a + 1) ≤ 57) := fun x => d2 ((zSb_dig hz (a + 1)).1.mpr x)
      have second := stop 999998 (a + 1) (zSb f t a - 48) (zI SR 13 (Int32.ofNat (a + 1))) (by omega) hR1 dR2
      rw [if_neg d2, zB_some, if_neg (show ¬ (0 : Int32) ≤ -1 by decide), show fX12_readNumber_b7 zN 999999 (Int32.ofNat a) (zSb f t a - 48) (zI SR 13 (Int32.ofNat (a + 1))) = _ from second]
      unfold fX12_readNumber_b85 fX8_readMeasure_b36 fX12_readNumber_b106
      rw [hR1.2.2.1, if_neg n14, hR1.2.1, if_neg (nz (a + 1) (by omega) (by omega)), if_pos p3, if_pos p3, x_putv hj, zU_some]
      refine Or.inl ⟨_, a + 1, _, _, rfl, rfl, ⟨p1, p3⟩, by omega, zTXs_K hX1 (zK_A _ 901 j _) (by simp) (by simp), hR1, zK_mono (zK_trans (zK_I SX 1102 _) (zK_A _ 901 j _)) (by simp) (by simp), fun i => ?_, zK_I _ _ _⟩
      rw [zA_get]
      rfl
  · have dR : ¬ (48 ≤ zSb g t a ∧ zSb g t a ≤ 57) := fun x => d ((zSb_dig hz a).1.mpr x)
    rw [if_neg d, zB_some, if_neg (show ¬ (0 : Int32) ≤ -1 by decide), stop 999999 a 0 SR ha hR dR]
    unfold fX12_readNumber_b85 fX12_readNumber_b106
    rw [hR.2.2.1, if_neg n14, hR.2.1, if_pos rfl, zL_def]
    exact Or.inr ⟨_, _, _, rfl, rfl, hX.2.1, zI_self _ _ _, zK_refl _, zK_mono (zK_I SR 14 (Int32.ofNat a)) (by simp) (by simp)⟩

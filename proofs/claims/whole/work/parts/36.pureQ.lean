-- the GROUP
theorem x_swap {a b : Nat} (ha : a < 8) (hb : b < 8) (S : zSt) : fX6_swap (Int32.ofNat a) (Int32.ofNat b) S = some (zA (zA S 701 a (S.2.1 701 b)) 701 b (S.2.1 701 a)) := by
  have z1 : zin (Int32.ofNat a) 8 := zin_o ha (by decide)
  have z2 : zin (Int32.ofNat b) 8 := zin_o hb (by decide)
  unfold fX6_swap
  simp only [if_pos z1, if_pos z2, zL_def]
  rw [zo_t (by omega), zo_t (by omega)]
theorem zpm1 {b : Nat} (h : 1 ≤ b) : Int32.ofNat b + (-1) = Int32.ofNat (b - 1) := zo_m h
theorem x_turn : ∀ (fu a b : Nat) (S : zSt), a ≤ b + 1 → a ≤ 8 → b < 8 → 8 < a + fu →
    ∃ S1 : zSt, fX6_turnAround_b5 zN fu (Int32.ofNat b) (Int32.ofNat a) S = some S1 ∧ zKeep [] [701] S S1 ∧ ∀ j, S1.2.1 701 j = if a ≤ j ∧ j ≤ b then S.2.1 701 (a + b - j) else S.2.1 701 j := by
  intro fu
  induction fu with
  | zero => intro a b S h1 h2 h3 h4; exact absurd h4 (by omega)
  | succ fu ih =>
    intro a b S h1 h2 h3 h4
    rw [fX6_turnAround_b5, zi_le (by omega) (by omega)]
    by_cases c : b ≤ a
    · refine ⟨S, by rw [if_pos c], zK_refl _, fun j => ?_⟩
      by_cases d : a ≤ j ∧ j ≤ b
      · rw [if_pos d]
        have : a + b - j = j := by omega
        rw [this]
      · rw [if_neg d]
    · rw [if_neg c, x_swap (by omega) (by omega), zU_some, zo_m (by omega), zo_s]
      have K : zKeep [] [701] S (zA (zA S 701 a (S.2.1 701 b)) 701 b (S.2.1 701 a)) := zK_t (zK_A _ _ _ _) (zK_A _ _ _ _)
      obtain ⟨S1, e1, k1, r1⟩ := ih (a + 1) (b - 1) (zA (zA S 701 a (S.2.1 701 b)) 701 b (S.2.1 701 a)) (by omega) (by omega) (by omega) (by omega)
      refine ⟨S1, e1, zK_t K k1, fun j => ?_⟩
      rw [r1 j, zA_get, zA_get, zA_get, zA_get]
      by_cases d : a + 1 ≤ j ∧ j ≤ b - 1
      · have q : a + 1 + (b - 1) - j = a + b - j := by omega
        rw [if_pos d, q, if_neg (show ¬ a + b - j = b by omega), if_neg (show ¬ a + b - j = a by omega), if_pos (show a ≤ j ∧ j ≤ b by omega)]
      · rw [if_neg d]
        by_cases x : j = b
        · have q : a + b - j = a := by omega
          rw [if_pos x, if_pos (by omega), q]
        · rw [if_neg x]
          by_cases y : j = a
          · have q : a + b - j = b := by omega
            rw [if_pos y, if_pos (by omega), q]
          · rw [if_neg y, if_neg (by omega)]
def zdg : Nat → Nat → Nat
  | 0, _ => 0
  | f + 1, r => if r = 0 then 0 else zdg f (r / 10) + 1
theorem zdg_le : ∀ (f r k : Nat), r < 10 ^ f → (zdg f r ≤ k ↔ r < 10 ^ k) := by
  intro f
  induction f with
  | zero =>
    intro r k h
    have : r = 0 := by simpa using h
    subst this
    exact ⟨fun _ => Nat.pow_pos (by decide), fun _ => Nat.zero_le _⟩
  | succ f ih =>
    intro r k h
    have hd : r / 10 < 10 ^ f := by
      rw [Nat.div_lt_iff_lt_mul (by decide)]
      rw [Nat.pow_succ] at h
      exact h
    unfold zdg
    by_cases c : r = 0
    · subst c
      rw [if_pos rfl]
      exact ⟨fun _ => Nat.pow_pos (by decide), fun _ => Nat.zero_le _⟩
    · rw [if_neg c]
      cases k with
      | zero =>
        constructor
        · intro x; omega
        · intro x
          have : r = 0 := by simpa using x
          exact absurd this c
      | succ k =>
        rw [Nat.pow_succ, ← Nat.div_lt_iff_lt_mul (by decide : 0 < 10), ← ih (r / 10) k hd]
        omega
theorem zdg_0 {f r : Nat} (h : r < 10 ^ f) : zdg f r = 0 ↔ r = 0 := by
  have := zdg_le f r 0 h
  have e : (10 : Nat) ^ 0 = 1 := rfl
  rw [e] at this
  omega
theorem r_cnt (v1 : Int32) (S : zSt) : ∀ (f fu c r : Nat), r < 10 ^ f → f < fu → r < 2147483648 → c + f ≤ 100 →
    fX12_isGroup_b10 zN fu v1 (Int32.ofNat c) (Int32.ofNat r) S = if c + zdg f r ≤ 5 then fX12_isGroup_b42 zN zN (Int32.ofNat (c + zdg f r)) 0 v1 (zI S 33 (Int32.ofNat (c + zdg f r))) else some (0, S) := by
  have base : ∀ (fu c : Nat), c ≤ 100 → 0 < fu → fX12_isGroup_b10 zN fu v1 (Int32.ofNat c) (Int32.ofNat 0) S = if c ≤ 5 then fX12_isGroup_b42 zN zN (Int32.ofNat c) 0 v1 (zI S 33 (Int32.ofNat c)) else some (0, S) := fun fu c hc hf => by
    obtain _ | fu := fu
    · exact absurd hf (by omega)
    have e5 : (Int32.ofNat c ≤ 5) = (c ≤ 5) := zo_le (b := 5) (by omega) (by omega)
    rw [fX12_isGroup_b10, if_pos (by decide), zi_of e5]
    rfl
  intro f
  induction f with
  | zero =>
    intro fu c r h1 h2 h3 h4
    have : r = 0 := by simpa using h1
    subst this
    exact base fu c (by omega) (by omega)
  | succ f ih =>
    intro fu c r h1 h2 h3 h4
    by_cases d : r = 0
    · subst d
      have : zdg (f + 1) 0 = 0 := rfl
      rw [this]
      exact base fu c (by omega) (by omega)
    · obtain _ | fu := fu
      · exact absurd h2 (by omega)
      have hd : r / 10 < 10 ^ f := by
        rw [Nat.div_lt_iff_lt_mul (by decide)]
        rw [Nat.pow_succ] at h1
        exact h1
      have e0 : (Int32.ofNat r ≤ 0) = (r ≤ 0) := zo_le (b := 0) (by omega) (by omega)
      have ed : Int32.ofNat r / 10 = Int32.ofNat (r / 10) := zo_div (b := 10) (by omega) (by omega)
      have eg : zdg (f + 1) r = zdg f (r / 10) + 1 := by
        rw [zdg, if_neg d]
      rw [fX12_isGroup_b10, if_neg (by rw [e0]; omega), ed, zo_s, ih fu (c + 1) (r / 10) hd (by omega) (by omega) (by omega), eg]
      have : c + 1 + zdg f (r / 10) = c + (zdg f (r / 10) + 1) := by omega
      rw [this]
def zIG (m j nd : Nat) (t : Int32) (SX SR : zSt) : Prop :=
  (∀ k, k < j → SR.2.1 34 (nd - 1 - k) = SX.2.1 701 k ∧ ∃ a : Nat, a < m ∧ SX.2.1 701 k = Int32.ofNat a ∧ zb t a = true) ∧ ∀ k l, k < j → l < j → SX.2.1 701 k = SX.2.1 701 l → k = l
theorem e_take_loop {m : Nat} (hm : m ≤ 8) : ∀ (f fu fu2 j r nd : Nat) (t : Int32) (SX SR : zSt), r < 10 ^ f → j + zdg f r = nd → nd ≤ 5 → f < fu → f < fu2 → r < 2147483648 → SX.1 801 = Int32.ofNat m → SR.1 28 = Int32.ofNat m → zIG m j nd t SX SR →
    (∃ SX1 SR1 : zSt, fX6_take_b30 zN fu t (Int32.ofNat j) (Int32.ofNat r) SX = some (0, SX1) ∧ fX12_isGroup_b42 zN fu2 (Int32.ofNat (nd - j)) t (Int32.ofNat r) SR = some (0, SR1) ∧ zKeep [] [701] SX SX1 ∧ zKeep [] [34] SR SR1) ∨
    (∃ (SX1 SR1 : zSt) (t1 : Int32), fX6_take_b30 zN fu t (Int32.ofNat j) (Int32.ofNat r) SX = fX6_take_b102 zN (Int32.ofNat nd) SX1 ∧ fX12_isGroup_b42 zN fu2 (Int32.ofNat (nd - j)) t (Int32.ofNat r) SR = some (1, SR1) ∧ zKeep [] [701] SX SX1 ∧ zKeep [] [34] SR SR1 ∧ zIG m nd nd t1 SX1 SR1) := by
  have base : ∀ (fu fu2 j nd : Nat) (t : Int32) (SX SR : zSt), j = nd → nd ≤ 5 → 0 < fu → 0 < fu2 → zIG m j nd t SX SR →
      (∃ (SX1 SR1 : zSt) (t1 : Int32), fX6_take_b30 zN fu t (Int32.ofNat j) (Int32.ofNat 0) SX = fX6_take_b102 zN (Int32.ofNat nd) SX1 ∧ fX12_isGroup_b42 zN fu2 (Int32.ofNat (nd - j)) t (Int32.ofNat 0) SR = some (1, SR1) ∧ zKeep [] [701] SX SX1 ∧ zKeep [] [34] SR SR1 ∧ zIG m nd nd t1 SX1 SR1) := fun fu fu2 j nd t SX SR h1 h2 h3 h4 hI => by
    subst h1
    obtain _ | fu := fu
    · exact absurd h3 (by omega)
    obtain _ | fu2 := fu2
    · exact absurd h4 (by omega)
    refine ⟨SX, SR, t, ?_, ?_, zK_refl _, zK_refl _, hI⟩
    · rw [fX6_take_b30]
      by_cases c : (5 : Int32) ≤ Int32.ofNat j
      · rw [if_pos c]
      · rw [if_neg c, if_pos (by decide)]
    · rw [fX12_isGroup_b42, if_pos (by decide)]
  intro f
  induction f with
  | zero =>
    intro fu fu2 j r nd t SX SR h1 h2 h3 h4 h5 h6 h7 h8 hI
    have : r = 0 := by simpa using h1
    subst this
    exact Or.inr (base fu fu2 j nd t SX SR h2 h3 (by omega) (by omega) hI)
  | succ f ih =>
    intro fu fu2 j r nd t SX SR h1 h2 h3 h4 h5 h6 h7 h8 hI
    by_cases d : r = 0
    · subst d
      exact Or.inr (base fu fu2 j nd t SX SR h2 h3 (by omega) (by omega) hI)
    obtain _ | fu := fu
    · exact absurd h4 (by omega)
    obtain _ | fu2 := fu2
    · exact absurd h5 (by omega)
    have hd : r / 10 < 10 ^ f := by
      rw [Nat.div_lt_iff_lt_mul (by decide)]
      rw [Nat.pow_succ] at h1
      exact h1
    have e0 : (Int32.ofNat r ≤ 0) = (r ≤ 0) := zo_le (b := 0) (by omega) (by omega)
    have e5 : (5 ≤ Int32.ofNat j) = (5 ≤ j) := zo_le (a := 5) (by omega) (by omega)
    have ed : Int32.ofNat r / 10 = Int32.ofNat (r / 10) := zo_div (b := 10) (by omega) (by omega)
    have em : Int32.ofNat r - Int32.ofNat (r / 10) * 10 = Int32.ofNat (r % 10) := by
      have := zo_mod (a := r) (b := 10) (by omega) (by omega)
      rw [← this, zo_div (by omega) (by omega)]
      rfl
    have eg : zdg (f + 1) r = zdg f (r / 10) + 1 := by
      rw [zdg, if_neg d]
    have z5 : zin (Int32.ofNat (nd - j - 1)) 5 := zin_o (by omega) (by decide)
    have z8 : zin (Int32.ofNat j) 8 := zin_o (by omega) (by decide)
    have r28 : (0 : Int32) ≤ SR.1 28 := by rw [h8]; exact zo_0 (by omega)
    rw [fX6_take_b30, fX12_isGroup_b42, if_neg (by rw [e5]; omega), if_neg (by rw [e0]; omega), if_neg (by rw [e0]; omega), zo_m (by omega)]
    simp only [if_pos z5, if_pos z8, zL_def]
    rw [zo_t (by omega), zo_t (by omega), ed, em, zA_get, if_pos rfl, e_has7, e_isPerson _ _ (show (0 : Int32) ≤ (zA SR 34 (nd - j - 1) (Int32.ofNat (r % 10) - 1)).1 28 from r28), zB_some, zB_some]
    have w28 : (zA SR 34 (nd - j - 1) (Int32.ofNat (r % 10) - 1)).1 28 = Int32.ofNat m := h8
    have K2 : zKeep [] [34] SR (zA SR 34 (nd - j - 1) (Int32.ofNat (r % 10) - 1)) := zK_A _ _ _ _
    rw [h7, w28]
    by_cases q : 1 ≤ r % 10 ∧ r % 10 - 1 < m
    · rw [zo_p q.1]
      rw [zo_p q.1] at w28 K2
      have q2 : 0 ≤ Int32.ofNat (r % 10 - 1) ∧ Int32.ofNat (r % 10 - 1) < Int32.ofNat m := ⟨zo_0 (by omega), by rw [zo_lt (by omega) (by omega)]; exact q.2⟩
      rw [if_pos q2, if_neg zn10, if_neg zn10, e_hasBit t (by omega), zU_some, zA_get, if_pos rfl, zi_of (zb_iff t (by omega))]
      by_cases b : zb t (r % 10 - 1) = true
      · rw [if_pos b, if_neg zn10, if_pos b]
        exact Or.inl ⟨SX, _, rfl, rfl, zK_refl _, K2⟩
      · rw [if_neg b, if_pos zn00, if_neg b, zo_s]
        have K1 := zK_A SX 701 j (Int32.ofNat (r % 10 - 1))
        have hI2 : zIG m (j + 1) nd (t ||| 1 <<< (Int32.ofNat (r % 10 - 1) &&& 31)) (zA SX 701 j (Int32.ofNat (r % 10 - 1))) (zA SR 34 (nd - j - 1) (Int32.ofNat (r % 10 - 1))) := by
          refine ⟨fun k hk => ?_, fun k l hk hl hkl => ?_⟩
          · rw [zA_get, zA_get]
            by_cases e : k = j
            · subst e
              rw [if_pos rfl, if_pos (by omega)]
              exact ⟨rfl, r % 10 - 1, q.2, rfl, by rw [zb_or t (by omega) (by omega)]; simp⟩
            · obtain ⟨x1, a, x2, x3, x4⟩ := hI.1 k (by omega)
              rw [if_neg e, if_neg (by omega)]
              exact ⟨x1, a, x2, x3, by rw [zb_or t (by omega) (by omega), x4]; rfl⟩
          · rw [zA_get, zA_get] at hkl
            have nq : ∀ k, k < j → ¬ SX.2.1 701 k = Int32.ofNat (r % 10 - 1) := fun k hk e => by
              obtain ⟨x1, a, x2, x3, x4⟩ := hI.1 k hk
              rw [x3, zo_eq (by omega) (by omega)] at e
              rw [e] at x4
              exact b x4
            by_cases e : k = j
            · by_cases e2 : l = j
              · omega
              · rw [if_pos e, if_neg e2] at hkl
                exact absurd hkl.symm (nq l (by omega))
            · by_cases e2 : l = j
              · rw [if_neg e, if_pos e2] at hkl
                exact absurd hkl (nq k (by omega))
              · rw [if_neg e, if_neg e2] at hkl
                exact hI.2 k l (by omega) (by omega) hkl
        have en : nd - j - 1 = nd - (j + 1) := by omega
        rcases ih fu fu2 (j + 1) (r / 10) nd (t ||| 1 <<< (Int32.ofNat (r % 10 - 1) &&& 31)) (zA SX 701 j (Int32.ofNat (r % 10 - 1))) (zA SR 34 (nd - j - 1) (Int32.ofNat (r % 10 - 1))) hd (by omega) h3 (by omega) (by omega) (by omega) h7 h8 hI2 with ⟨SX1, SR1, e1, e2, k1, k2⟩ | ⟨SX1, SR1, t1, e1, e2, k1, k2, i1⟩
        · exact Or.inl ⟨SX1, SR1, e1, by rw [en] at e2 ⊢; exact e2, zK_t K1 k1, zK_t K2 k2⟩
        · exact Or.inr ⟨SX1, SR1, t1, e1, by rw [en] at e2 ⊢; exact e2, zK_t K1 k1, zK_t K2 k2, i1⟩
    · have q2 : ¬ (0 ≤ Int32.ofNat (r % 10) - 1 ∧ Int32.ofNat (r % 10) - 1 < Int32.ofNat m) := by
        rintro ⟨x, y⟩
        by_cases w : 1 ≤ r % 10
        · rw [zo_p w, zo_lt (by omega) (by omega)] at y
          exact q ⟨w, y⟩
        · have : r % 10 = 0 := by omega
          rw [this] at x
          exact absurd x (by decide)
      rw [if_neg q2, if_pos zn00, if_pos zn00]
      exact Or.inl ⟨SX, _, rfl, rfl, zK_refl _, K2⟩
def zGok (m n : Nat) (g : Nat → Nat) : Prop := 1 ≤ n ∧ n ≤ 5 ∧ (∀ k, k < n → g k < m) ∧ ∀ k l, k < n → l < n → g k = g l → k = l
theorem e_take {m : Nat} (hm : m ≤ 8) {SX SR : zSt} (h7 : SX.1 801 = Int32.ofNat m) (h8 : SR.1 28 = Int32.ofNat m) (grp f : Int32) :
    (∃ SX1 SR1 : zSt, fX6_take zN grp f SX = some (0, SX1) ∧ fX12_isGroup zN grp SR = some (0, SR1) ∧ zTX SX SX1 ∧ zTR SR SR1) ∨
    (∃ (SX1 SR1 : zSt) (n : Nat) (g : Nat → Nat), fX6_take zN grp f SX = some (1, SX1) ∧ fX12_isGroup zN grp SR = some (1, SR1) ∧ zTX SX SX1 ∧ zTR SR SR1 ∧ zGok m n g ∧ zGX n g f SX1 ∧ zGrp n g SR1) := by
  have K0 : zTX SX (zI (zI SX 705 0) 706 f) := zK_t (zK_mono (zK_I _ _ _) (by simp) (by simp)) (zK_mono (zK_I _ _ _) (by simp) (by simp))
  unfold fX6_take fX12_isGroup
  rw [zL_def, zL_def, e_isWithin, zU_some]
  by_cases c : 0 < grp
  · obtain ⟨x, hx, ex⟩ := zo_ex (Int32.le_of_lt c)
    have hx0 : 0 < x := by
      rw [ex] at c
      exact (Eq.mp (zo_lt (a := 0) (by omega) (by omega)) c : 0 < x)
    have hx10 : x < 10 ^ 10 := by
      have : (10 : Nat) ^ 10 = 10000000000 := rfl
      rw [this]; omega
    have q : (1 ≤ grp ∧ grp ≤ 99999) ↔ x < 10 ^ 5 := by
      have : (10 : Nat) ^ 5 = 100000 := rfl
      rw [this, ex]
      show (Int32.ofNat 1 ≤ Int32.ofNat x ∧ Int32.ofNat x ≤ Int32.ofNat 99999) ↔ _
      rw [zo_le (by omega) (by omega), zo_le (by omega) (by omega)]
      omega
    have hc := r_cnt grp SR 10 zN 0 x hx10 (by decide) hx (by omega)
    rw [if_pos c]
    have hc2 := (congrArg (fun y => fX12_isGroup_b10 zN zN grp 0 y SR) ex).trans hc
    rw [show fX12_isGroup_b10 zN zN grp 0 grp SR = _ from hc2, Nat.zero_add, zi_of (propext (zdg_le 10 x 5 hx10))]
    by_cases d : x < 10 ^ 5
    · have hnd : zdg 10 x ≤ 5 := (zdg_le 10 x 5 hx10).mpr d
      have hn1 : 1 ≤ zdg 10 x := by
        have := zdg_0 hx10
        omega
      have KR : zTR SR (zI SR 33 (Int32.ofNat (zdg 10 x))) := zK_mono (zK_I _ _ _) (by simp) (by simp)
      rw [if_pos (q.mpr d), if_neg zn10, if_pos d]
      have L := e_take_loop hm 10 zN zN 0 x (zdg 10 x) 0 (zI (zI SX 705 0) 706 f) (zI SR 33 (Int32.ofNat (zdg 10 x))) hx10 (by omega) hnd (by decide) (by decide) hx h7 h8 ⟨fun k hk => absurd hk (by omega), fun k l hk => absurd hk (by omega)⟩
      rw [Nat.sub_zero, ← ex] at L
      rcases L with ⟨SX1, SR1, e1, e2, k1, k2⟩ | ⟨SX1, SR1, t1, e1, e2, k1, k2, i1⟩
      · exact Or.inl ⟨SX1, SR1, e1, e2, zTX_t K0 (zTX_of k1 (by simp) (by simp)), zTR_t KR (zTR_of k2 (by simp) (by simp))⟩
      · obtain ⟨S2, t2, k3, r2⟩ := x_turn zN 0 (zdg 10 x - 1) (zI SX1 705 (Int32.ofNat (zdg 10 x))) (by omega) (by omega) (by omega) (by decide)
        have KT : zKeep [705] [701] SX1 S2 := zK_mono (zK_trans (zK_I SX1 705 (Int32.ofNat (zdg 10 x))) k3) (by simp) (by simp)
        refine Or.inr ⟨S2, SR1, zdg 10 x, fun k => Int32.toNatClampNeg (SR1.2.1 34 k), ?_, e2, zTX_t K0 (zTX_t (zTX_of k1 (by simp) (by simp)) (zTX_of KT (by simp) (by simp))), zTR_t KR (zTR_of k2 (by simp) (by simp)), ?_, ?_, ?_⟩
        · refine (show _ = _ from e1).trans ?_
          unfold fX6_take_b102 fX6_turnAround
          rw [zL_def, zo_p hn1]
          refine (congrArg (fun o => zU o _) (show fX6_turnAround_b5 zN zN (Int32.ofNat (zdg 10 x - 1)) 0 (zI SX1 705 (Int32.ofNat (zdg 10 x))) = some S2 from t2)).trans ?_
          rfl
        · refine ⟨hn1, hnd, fun k hk => ?_, fun k l hk hl e => ?_⟩
          · obtain ⟨y1, a, y2, y3, -⟩ := i1.1 (zdg 10 x - 1 - k) (by omega)
            have : zdg 10 x - 1 - (zdg 10 x - 1 - k) = k := by omega
            rw [this] at y1
            show Int32.toNatClampNeg (SR1.2.1 34 k) < m
            rw [y1, y3, zo_t (by omega)]
            exact y2
          · obtain ⟨y1, a, y2, y3, -⟩ := i1.1 (zdg 10 x - 1 - k) (by omega)
            obtain ⟨w1, b, w2, w3, -⟩ := i1.1 (zdg 10 x - 1 - l) (by omega)
            have t1 : zdg 10 x - 1 - (zdg 10 x - 1 - k) = k := by omega
            have t2 : zdg 10 x - 1 - (zdg 10 x - 1 - l) = l := by omega
            rw [t1] at y1
            rw [t2] at w1
            have e : Int32.toNatClampNeg (SR1.2.1 34 k) = Int32.toNatClampNeg (SR1.2.1 34 l) := e
            rw [y1, w1, y3, w3, zo_t (by omega), zo_t (by omega)] at e
            have := i1.2 (zdg 10 x - 1 - k) (zdg 10 x - 1 - l) (by omega) (by omega) (by rw [y3, w3, e])
            omega
        · refine ⟨?_, ?_, fun k hk => ?_⟩
          · rw [k3.1 705 (by simp)]; exact zI_self _ _ _
          · rw [k3.1 706 (by simp), zI_ne _ _ (by decide), k1.1 706 (by simp)]; exact zI_self _ _ _
          · obtain ⟨y1, a, y2, y3, -⟩ := i1.1 (zdg 10 x - 1 - k) (by omega)
            have t1 : zdg 10 x - 1 - (zdg 10 x - 1 - k) = k := by omega
            rw [t1] at y1
            rw [r2 k, if_pos (by omega), Nat.zero_add]
            show SX1.2.1 701 (zdg 10 x - 1 - k) = Int32.ofNat (Int32.toNatClampNeg (SR1.2.1 34 k))
            rw [y1, y3, zo_t (by omega)]
        · refine ⟨?_, fun k hk => ?_⟩
          · rw [k2.1 33 (by simp)]; exact zI_self _ _ _
          · obtain ⟨y1, a, y2, y3, -⟩ := i1.1 (zdg 10 x - 1 - k) (by omega)
            have t1 : zdg 10 x - 1 - (zdg 10 x - 1 - k) = k := by omega
            rw [t1] at y1
            show SR1.2.1 34 k = Int32.ofNat (Int32.toNatClampNeg (SR1.2.1 34 k))
            rw [y1, y3, zo_t (by omega)]
    · rw [if_neg (fun y => d (q.mp y)), if_pos zn00, if_neg d]
      exact Or.inl ⟨_, SR, rfl, rfl, K0, zTR_refl _⟩
  · have q : ¬ (1 ≤ grp ∧ grp ≤ 99999) := fun x => c (Int32.lt_of_lt_of_le (by decide) x.1)
    rw [if_neg q, if_pos zn00, if_neg c]
    exact Or.inl ⟨_, SR, rfl, rfl, K0, zTR_refl _⟩
theorem e_group {m : Nat} (hm : m ≤ 8) {SX SR : zSt} (h7 : SX.1 801 = Int32.ofNat m) (h8 : SR.1 28 = Int32.ofNat m) (gf : Int32) :
    (∃ SX1 SR1 : zSt, fX11_takesGroup zN gf SX = some (0, SX1) ∧ fX12_areSo zN gf SR = some (0, SR1) ∧ zTX SX SX1 ∧ zTR SR SR1) ∨
    (∃ (SX1 SR1 : zSt) (n : Nat) (g : Nat → Nat) (f : Nat), fX11_takesGroup zN gf SX = some (1, SX1) ∧ fX12_areSo zN gf SR = some (1, SR1) ∧ zTX SX SX1 ∧ zTR SR SR1 ∧ zGok m n g ∧ f < 4 ∧ gf - gf / 10 * 10 = Int32.ofNat f ∧ zGX n g (Int32.ofNat f) SX1 ∧ zGrp n g SR1) := by
  unfold fX11_takesGroup fX12_areSo
  by_cases c : gf < 0
  · rw [if_pos c, if_pos c]
    exact Or.inl ⟨SX, SR, rfl, rfl, zTX_refl _, zTR_refl _⟩
  · obtain ⟨x, hx, e0, e1, e2⟩ := zdv (Int32.not_lt.mp c) 10 (by decide)
    have e1 : gf / 10 = Int32.ofNat (x / 10) := e1
    have e2 : gf - gf / 10 * 10 = Int32.ofNat (x % 10) := e2
    have e4 : (4 ≤ Int32.ofNat (x % 10)) = (4 ≤ x % 10) := zo_le (a := 4) (by omega) (by omega)
    rw [if_neg c, if_neg c, e2, zi_of e4, zi_of e4]
    by_cases d : 4 ≤ x % 10
    · rw [if_pos d, if_pos d]
      exact Or.inl ⟨SX, SR, rfl, rfl, zTX_refl _, zTR_refl _⟩
    · rw [if_neg d, if_neg d]
      rcases e_take hm h7 h8 (gf / 10) (Int32.ofNat (x % 10)) with ⟨SX1, SR1, a1, a2, k1, k2⟩ | ⟨SX1, SR1, n, g, a1, a2, k1, k2, ok, gx, gr⟩
      · rw [a1, a2, zB_some, zB_some, if_pos zn00, if_pos zn00]
        exact Or.inl ⟨SX1, SR1, rfl, rfl, k1, k2⟩
      · rw [a1, a2, zB_some, zB_some, if_neg zn10, if_neg zn10]
        exact Or.inr ⟨SX1, SR1, n, g, x % 10, rfl, rfl, k1, k2, ok, by omega, rfl, gx, gr⟩

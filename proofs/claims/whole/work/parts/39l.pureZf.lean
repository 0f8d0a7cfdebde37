-- notches from a row
theorem lg_lt0 (x : Int64) : (lg_cmp x 0 < 0) = (x.toInt < 0) := by
  apply propext
  unfold lg_cmp
  have e : (0 : Int64).toInt = 0 := by decide
  by_cases a : x > 0
  · have b : ¬ x.toInt < 0 := by
      have := Int64.lt_iff_toInt_lt.mp a
      omega
    rw [if_pos a]
    exact ⟨fun h => absurd h (by decide), fun h => absurd h b⟩
  · have a2 : ¬ 0 < x.toInt := fun h => a (Int64.lt_iff_toInt_lt.mpr (by omega))
    rw [if_neg a]
    by_cases c : x = 0
    · rw [if_pos c, c]
      exact ⟨fun h => absurd h (by decide), fun h => absurd h (by decide)⟩
    · have : ¬ x.toInt = 0 := fun h => c (Int64.toInt.inj (by rw [h, e]))
      rw [if_neg c]
      exact ⟨fun _ => by omega, fun _ => by decide⟩
theorem lg_ge (x y : Int64) : (0 ≤ lg_cmp x y) = (y.toInt ≤ x.toInt) := by
  apply propext
  unfold lg_cmp
  by_cases a : x > y
  · have := Int64.lt_iff_toInt_lt.mp a
    rw [if_pos a]
    exact ⟨fun _ => by omega, fun _ => by decide⟩
  · have a2 : ¬ y.toInt < x.toInt := fun h => a (Int64.lt_iff_toInt_lt.mpr h)
    rw [if_neg a]
    by_cases c : x = y
    · rw [if_pos c, c]
      exact ⟨fun _ => Int.le_refl _, fun _ => by decide⟩
    · have : ¬ x.toInt = y.toInt := fun h => c (Int64.toInt.inj h)
      rw [if_neg c]
      exact ⟨fun h => absurd h (by decide), fun _ => by omega⟩
theorem n_x2 (v : Int32) {k : Nat} (hk : k ≤ 20) : (Int32.toInt64 v + Int32.toInt64 (2 * Int32.ofNat k)).toInt = v.toInt + 2 * (k : Int) := by
  have a := Int32.toInt_lt v
  have b := Int32.le_toInt v
  have e : (2 : Int32) * Int32.ofNat k = Int32.ofNat (2 * k) := zo_mul 2 k
  rw [e, Int64.toInt_add, Int32.toInt_toInt64, Int32.toInt_toInt64, zo_i (by omega), Int.bmod_eq_of_le (by omega) (by omega)]
  omega
theorem n_x3 {x : Int64} {j : Nat} (hj : j < 1000) (h : x.toInt = (j : Int)) : Int64.toInt32 x = Int32.ofNat j := by
  apply Int32.toInt.inj
  rw [Int64.toInt_toInt32, h, zo_i (by omega), Int.bmod_eq_of_le (by omega) (by omega)]
theorem n_x4 {x : Int64} {j : Nat} (hj : j < 1000) (h : x.toInt = (j : Int)) : (x + 1).toInt = (j : Int) + 1 := by
  rw [Int64.toInt_add, h, show (1 : Int64).toInt = 1 from by decide, Int.bmod_eq_of_le (by omega) (by omega)]
theorem n_x4b {x : Int64} (h : -2147483648 ≤ x.toInt) (h2 : x.toInt < 2147484000) : (x + 1).toInt = x.toInt + 1 := by
  rw [Int64.toInt_add, show (1 : Int64).toInt = 1 from by decide, Int.bmod_eq_of_le (by omega) (by omega)]
theorem n_st {so i le : Int32} {z : Int} {L : Nat} (hso : so = 0) (hi : i.toInt = z) (hL : L ≤ 60) (hle : le = Int32.ofNat L) : ((0 ≤ so ∧ so ≤ 4) ∧ (0 : Int32) ≤ 2 ∧ 0 ≤ i ∧ i ≤ le ∧ 2 ≤ le - i) ↔ (0 ≤ z ∧ z + 2 ≤ (L : Int)) := by
  subst hso hle
  constructor
  · rintro ⟨-, -, a, b, c⟩
    obtain ⟨j, hj, rfl⟩ := zo_exle a (by omega : L < 2147483648) b
    rw [zo_i (by omega)] at hi
    rw [zo_sub hj] at c
    have c : Int32.ofNat 2 ≤ Int32.ofNat (L - j) := c
    rw [zo_le (by omega) (by omega)] at c
    omega
  · rintro ⟨a, b⟩
    have e : i = Int32.ofNat z.toNat := Int32.toInt.inj (by rw [zo_i (by omega)]; omega)
    rw [e, zo_sub (by omega)]
    refine ⟨by decide, by decide, zo_0 (by omega), by rw [zo_le (by omega) (by omega)]; omega, ?_⟩
    show Int32.ofNat 2 ≤ Int32.ofNat (L - z.toNat)
    rw [zo_le (by omega) (by omega)]
    omega
theorem x_elem {S : zSt} {s : Int32} (hs : 0 ≤ s ∧ s < 6) (hso : S.2.1 1000 (Int32.toNatClampNeg s) = 0) {L j : Nat} (hL : L ≤ 60) (hle : S.2.1 1001 (Int32.toNatClampNeg s) = Int32.ofNat L) (hj : j < L) : fX9_elementAt s (Int32.ofNat j) S = some (S.2.2 (10030 + Int32.toNatClampNeg s) j, S) := by
  have z6 : zin s 6 := zin_of (k := 6) rfl (by decide) hs.1 hs.2
  have q : (0 ≤ S.2.1 1000 (Int32.toNatClampNeg s) ∧ S.2.1 1000 (Int32.toNatClampNeg s) ≤ 4) ∧ (0 : Int32) ≤ 1 ∧ 0 ≤ Int32.ofNat j ∧ Int32.ofNat j ≤ S.2.1 1001 (Int32.toNatClampNeg s) ∧ 1 ≤ S.2.1 1001 (Int32.toNatClampNeg s) - Int32.ofNat j := by
    rw [hso, hle, zo_sub (by omega)]
    refine ⟨by decide, by decide, zo_0 (by omega), by rw [zo_le (by omega) (by omega)]; omega, ?_⟩
    show Int32.ofNat 1 ≤ Int32.ofNat (L - j)
    rw [zo_le (by omega) (by omega)]
    omega
  unfold fX9_elementAt
  rw [e_stretch s _ 1 S hs, zB_some, if_pos q, if_neg zn10, if_pos z6, if_pos (zin_o (by omega) (by decide)), zo_t (by omega)]
theorem n_zin {s : Int32} (h0 : 0 ≤ s) (h1 : s < 6) {j : Nat} (hj : j < 60) : ∃ t : Nat, t < 6 ∧ s = Int32.ofNat t ∧ 60 * s + Int32.ofNat j = Int32.ofNat (60 * t + j) := by
  obtain ⟨t, ht, rfl⟩ := zo_exlt (k := 6) h0 (by decide) h1
  refine ⟨t, ht, rfl, ?_⟩
  rw [Int32.ofNat_add, Int32.ofNat_mul]
  rfl
theorem n_next {i : Int32} {z : Int} (h : i.toInt = z) (h0 : 0 ≤ z) (h1 : z ≤ 60) : (i + 2).toInt = z + 2 := by
  rw [Int32.toInt_add, h, show (2 : Int32).toInt = 2 from by decide, Int.bmod_eq_of_le (by omega) (by omega)]
theorem e_notches {s : Int32} (hs : 0 ≤ s ∧ s < 6) (v2 : Int32) {n : Nat} (hn : n ≤ 20) : ∀ (c fu fu2 k : Nat) (v5 : Int32) (SX SR : zSt), k + c = n → c < fu → c < fu2 → zRel SX SR → SX.2.1 1000 (Int32.toNatClampNeg s) = 0 → v5.toInt = v2.toInt + 2 * (k : Int) →
    zEq (fX11_addNotches_b6 zN fu s (Int32.ofNat n) (Int32.ofNat k) v5 SX) (fX12_notches_b58 zN fu2 s v2 (Int32.ofNat n) (Int32.ofNat k) SR) := by
  intro c
  induction c with
  | zero =>
    intro fu fu2 k v5 SX SR h1 h2 h3 hR hso h5
    obtain _ | fu := fu
    · exact absurd h2 (by omega)
    obtain _ | fu2 := fu2
    · exact absurd h3 (by omega)
    have : k = n := by omega
    subst this
    rw [fX11_addNotches_b6, fX12_notches_b58, zi_le (by omega) (by omega), zi_le (by omega) (by omega), if_pos (Nat.le_refl _), if_pos (Nat.le_refl _)]
    exact zEq_i rfl hR
  | succ c ih =>
    intro fu fu2 k v5 SX SR h1 h2 h3 hR hso h5
    obtain _ | fu := fu
    · exact absurd h2 (by omega)
    obtain _ | fu2 := fu2
    · exact absurd h3 (by omega)
    obtain ⟨hT, hP, hPe, hS, hL, hN, hB, hTr, hSh, hC, hG⟩ := id hR
    obtain ⟨n1, n2, n3, n4⟩ := id hN
    have sh := hSh s hs.1 hs.2
    rw [hso] at sh
    rcases sh with ⟨x, -⟩ | ⟨x, -⟩ | ⟨-, -, x1, x2, x3, x4, x5⟩
    · exact absurd x (by decide)
    · exact absurd x (by decide)
    obtain ⟨L, hL60, eL⟩ := zo_exle (k := 60) x3 (by decide) x4
    have z6 : zin s 6 := zin_of (k := 6) rfl (by decide) hs.1 hs.2
    have a := Int32.toInt_lt v2
    have b := Int32.le_toInt v2
    have ex := n_x2 v2 (by omega : k ≤ 20)
    have el : (Int32.toInt64 (SR.2.1 45 (Int32.toNatClampNeg s))).toInt = (L : Int) := by rw [Int32.toInt_toInt64, eL, zo_i (by omega)]
    have st := n_st hso h5 hL60 (x2.trans eL)
    rw [fX11_addNotches_b6, fX12_notches_b58, zi_le (by omega) (by omega), zi_le (by omega) (by omega), if_neg (by omega), if_neg (by omega), e_isFull5, zB_some, zL_def, zi_of (lg_lt0 _), ex, if_pos z6, zi_of (lg_ge _ _), el, n_x4b (by rw [ex]; omega) (by rw [ex]; omega), ex, ← n1]
    by_cases d : 0 ≤ v2.toInt + 2 * (k : Int) ∧ v2.toInt + 2 * (k : Int) + 2 ≤ (L : Int)
    · have d1 : ¬ v2.toInt + 2 * (k : Int) < 0 := by omega
      have d2 : ¬ (L : Int) ≤ v2.toInt + 2 * (k : Int) + 1 := by omega
      rw [if_neg d1, if_neg d2]
      by_cases f : SX.1 602 < 20
      · have f2 : ¬ SX.1 602 = 20 := zno5 f
        obtain ⟨j, ej⟩ : ∃ j : Nat, v2.toInt + 2 * (k : Int) = (j : Int) := ⟨(v2.toInt + 2 * (k : Int)).toNat, by omega⟩
        have e5 : v5 = Int32.ofNat j := Int32.toInt.inj (by rw [h5, ej, zo_i (by omega)])
        have x3' := n_x3 (x := Int32.toInt64 v2 + Int32.toInt64 (2 * Int32.ofNat k)) (by omega : j < 1000) (ex.trans ej)
        obtain ⟨t, ht, es, et⟩ := n_zin hs.1 hs.2 (by omega : j < 60)
        have w1 := x5 (Int32.ofNat j) (zo_0 (by omega)) (by show Int32.ofNat j < Int32.ofNat 60; rw [zo_lt (by omega) (by omega)]; omega)
        have w2 := x5 (Int32.ofNat (j + 1)) (zo_0 (by omega)) (by show Int32.ofNat (j + 1) < Int32.ofNat 60; rw [zo_lt (by omega) (by omega)]; omega)
        have et2 : 60 * s + Int32.ofNat (j + 1) = Int32.ofNat (60 * t + j) + 1 := by rw [← zo_s, ← et, Int32.add_assoc]
        rw [zo_t (by omega)] at w1 w2
        rw [et] at w1
        rw [et2] at w2
        have z1 : zin (Int32.ofNat (60 * t + j)) 360 := zin_o (by omega) (by decide)
        have z2 : zin (Int32.ofNat (60 * t + j) + 1) 360 := by rw [zo_s]; exact zin_o (by omega) (by decide)
        have g1 := x_elem hs hso hL60 (x2.trans eL) (by omega : j < L)
        have g2 := x_elem hs hso hL60 (x2.trans eL) (by omega : j + 1 < L)
        rw [if_pos f, if_pos zn00, e_stretch s v5 2 SX hs, zB_some, if_pos (st.mpr d), if_neg zn10, if_neg f2, x3', et, if_pos z1, if_pos z2, e5, g1, zB_some, zo_s j, g2, zB_some, ← w1, ← w2]
        obtain ⟨r, m1, m2, m3⟩ := e_may hN (Int64.toInt32 (SX.2.2 (10030 + Int32.toNatClampNeg s) j)) (Int64.toInt32 (SX.2.2 (10030 + Int32.toNatClampNeg s) (j + 1)))
        rw [m1, m2, zB_some, zB_some]
        rcases m3 with rfl | ⟨rfl, ha, hb⟩
        · rw [if_pos zn00, if_pos zn00]
          exact zEq_i rfl hR
        · rw [if_neg zn10, if_neg zn10, e_addX n2 f, if_pos z1, if_pos z2, ← w1, ← w2, e_addR (n1 ▸ n2) (n1 ▸ f), zB_some, zU_some, zo_s k]
          refine ih fu fu2 (k + 1) _ _ _ (by omega) (by omega) (by omega) ⟨hT, hP, hPe, hS, hL, rNotch_add hN f ha hb, hB, hTr, hSh, hC, hG⟩ hso ?_
          rw [n_next (by rw [zo_i (by omega)]) (by omega) (by omega)]
          push_cast
          omega
      · have f2 : SX.1 602 = 20 := zno4 n3 f
        rw [if_neg f, if_neg zn10, if_pos f2]
        exact zEq_i rfl hR
    · have q : ¬ ((0 ≤ SX.2.1 1000 (Int32.toNatClampNeg s) ∧ SX.2.1 1000 (Int32.toNatClampNeg s) ≤ 4) ∧ (0 : Int32) ≤ 2 ∧ 0 ≤ v5 ∧ v5 ≤ SX.2.1 1001 (Int32.toNatClampNeg s) ∧ 2 ≤ SX.2.1 1001 (Int32.toNatClampNeg s) - v5) := fun x => d (st.mp x)
      have xr : (if v2.toInt + 2 * (k : Int) < 0 then some (Int32.ofNat k, SR) else if (L : Int) ≤ v2.toInt + 2 * (k : Int) + 1 then some (Int32.ofNat k, SR) else (none : Option (Int32 × zSt))) = some (Int32.ofNat k, SR) := by
        by_cases w : v2.toInt + 2 * (k : Int) < 0
        · rw [if_pos w]
        · rw [if_neg w, if_pos (by omega)]
      have xx : ∀ Z : Option (Int32 × zSt), (if v2.toInt + 2 * (k : Int) < 0 then some (Int32.ofNat k, SR) else if (L : Int) ≤ v2.toInt + 2 * (k : Int) + 1 then some (Int32.ofNat k, SR) else Z) = some (Int32.ofNat k, SR) := fun Z => by
        by_cases w : v2.toInt + 2 * (k : Int) < 0
        · rw [if_pos w]
        · rw [if_neg w, if_pos (by omega)]
      rw [xx]
      by_cases f : SX.1 602 < 20
      · rw [if_pos f, if_pos zn00, e_stretch s v5 2 SX hs, zB_some, if_neg q, if_pos zn00]
        exact zEq_i rfl hR
      · rw [if_neg f, if_neg zn10]
        exact zEq_i rfl hR
theorem nsh1 {a : Int32} (h : 0 ≤ a) (e : (-1 : Int32) = -2 - a) : False := by grind
theorem nsh2 {a : Int32} (e : -2 - a = -2) : a = 0 := by grind
theorem q_notches {SX SR : zSt} (hRel : zRel SX SR) (p1 p2 p3 : Int32) : zEq (fX11_notches zN p1 p2 p3 SX) (fX12_notches zN p1 p2 p3 SR) := by
  unfold fX11_notches fX12_notches fX12_notches_b43
  rw [e_has9, e_isShelf, zU_some, zU_some]
  by_cases c : 0 ≤ p1 ∧ p1 < 6
  · have z6 : zin p1 6 := zin_of (k := 6) rfl (by decide) c.1 c.2
    rw [if_pos c, if_neg zn10, if_neg zn10, e_isWithin, e_in, zU_some, zU_some]
    by_cases d : 1 ≤ p3 ∧ p3 ≤ 20
    · obtain ⟨n, hn, en⟩ := zo_exle (k := 20) (Int32.le_trans (by decide) d.1) (by decide) d.2
      rw [if_pos d, if_neg zn10, if_neg zn10, e_sortOn p1 SX c, zB_some]
      simp only [if_pos z6]
      rw [e_sortOn p1 SX c]
      have hSh := hRel.2.2.2.2.2.2.2.2.1 p1 c.1 c.2
      rcases hSh with ⟨x, y⟩ | ⟨x, y, y2, y3⟩ | ⟨x, x2, y, -⟩
      · rw [x, y, if_pos (show (-2 : Int32) = -2 from rfl), if_pos (show (-1 : Int32) = -1 from rfl)]
        exact zEq_i rfl hRel
      · have q1 : ¬ SR.2.1 44 (Int32.toNatClampNeg p1) = -1 := fun h => by rw [h] at y2; exact absurd y2 (by decide)
        have q2 : ¬ SR.2.1 44 (Int32.toNatClampNeg p1) = -2 := fun h => by rw [h] at y2; exact absurd y2 (by decide)
        rw [x, if_neg (show ¬ (-1 : Int32) = -2 by decide), zB_some, if_neg (show ¬ (-1 : Int32) = 0 by decide), if_neg q1, if_neg q2]
        exact zEq_i rfl hRel
      · have q1 : ¬ SR.2.1 44 (Int32.toNatClampNeg p1) = -1 := fun h => by rw [h] at y; exact nsh1 x y
        have q3 : ¬ SX.2.1 1000 (Int32.toNatClampNeg p1) = -2 := fun h => by rw [h] at x; exact absurd x (by decide)
        by_cases w : SX.2.1 1000 (Int32.toNatClampNeg p1) = 0
        · have q2 : SR.2.1 44 (Int32.toNatClampNeg p1) = -2 := by rw [y, w]; decide
          unfold fX11_addNotches
          rw [w, if_neg (show ¬ (0 : Int32) = -2 by decide), zB_some, if_pos zn00, if_neg q1, if_neg q1, if_pos q2, en]
          exact zEq_B (e_notches c p2 hn n zN zN 0 p2 SX SR (by omega) (Nat.lt_of_le_of_lt hn (by decide)) (Nat.lt_of_le_of_lt hn (by decide)) hRel w (by omega))
        · have q2 : ¬ SR.2.1 44 (Int32.toNatClampNeg p1) = -2 := fun h => by rw [y] at h; exact w (nsh2 h)
          rw [if_neg q3, zB_some, if_neg w, if_neg q1, if_neg q2]
          exact zEq_i rfl hRel
    · rw [if_neg d, if_pos zn00, if_pos zn00]
      exact zEq_i rfl hRel
  · rw [if_neg c, if_pos zn00, if_pos zn00]
    exact zEq_i rfl hRel

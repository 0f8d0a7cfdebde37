-- gusts
def zZ (z : Int32) : Nat → Int32
  | 0 => z
  | i + 1 => zZ z i * 1103515245 + 12345
def zGu (z mo : Int32) (i : Nat) : Int32 := zus (zZ z (i + 1)) 8 - zus (zZ z (i + 1)) 8 / mo * mo
theorem zFF_congr {G G2 : Nat → Int32} : ∀ (c i : Nat), (∀ j, i ≤ j → j < i + c → G j = G2 j) → zFF G c i = zFF G2 c i := by
  intro c
  induction c with
  | zero => intro i _; rfl
  | succ c ih =>
    intro i h
    rw [zFF, zFF, h i (by omega) (by omega), ih (i + 1) (fun j h1 h2 => h j (by omega) (by omega))]
theorem zG_or (E : zE) {n : Nat} (hn : n ≤ 8) (g : Nat → Nat) (f : Int32) (p : Nat) (e : Int32) (U : Nat → Int32) {i : Nat} (hi : i < 12) (h : ¬ zG E n g f p e U i = -2) : ¬ (100 : Int32) * Int32.ofNat i + zG E n g f p e U i = -2 := by
  rcases zFirst_or (zMar E n g f p i e (U i)) n 0 with q | ⟨j, j1, j2, q⟩
  · exact absurd q h
  · have q : zG E n g f p e U i = Int32.ofNat j := q
    rw [q]
    exact zFF_ne (by omega) (by omega)
theorem x_gust_in {E : zE} {np m : Nat} {nc : Nat → Nat} {n : Nat} {g : Nat → Nat} (hH : zH E np m nc n g) {f : Int32} {p : Nat} (hp : p < np) (e v4 v7 v8 z : Int32) {mo : Int32} (hmo : ¬ mo = 0) (K : Int32 → Int32 → Int32 → Int32 → Int32 → Int32 → Int32 → zSt → Option (Int32 × zSt)) : ∀ (fu i c : Nat) (o : Int32) (SX : zSt), i + c = nc p → 12 < i + fu → zSX E np m nc n g f SX → (o = 0 ∨ o = 1) →
    ∃ SX1 : zSt, fX2_timesOver_b22 zN K fu (Int32.ofNat p) e v4 mo (zZ z i) v7 v8 o (Int32.ofNat i) SX = K (Int32.ofNat p) e v4 mo (zZ z (nc p)) (v7 + (if o = 1 ∧ zFF (zG E n g f p e (zGu z mo)) c i = -2 then 1 else 0)) (v8 + 1) SX1 ∧ zKeep [] [702, 703, 704] SX SX1 := by
  have n5 := hH.2.2.1
  have n12 := (hH.1.2.2.1 p hp).2.1
  intro fu
  induction fu with
  | zero => intro i c o SX h1 h2; exact absurd h2 (by omega)
  | succ fu ih =>
    intro i c o SX h1 h2 hX ho
    rw [fX2_timesOver_b22, x_cellsOf hH.1 hX.1 hp, zB_some, zi_le (by omega) (by omega)]
    cases c with
    | zero =>
      have : i = nc p := by omega
      subst this
      rw [if_pos (Nat.le_refl _)]
      unfold fX11_asNumber
      refine ⟨SX, ?_, zK_refl _⟩
      rcases ho with rfl | rfl
      · have q : ¬ ((0 : Int32) = 1 ∧ zFF (zG E n g f p e (zGu z mo)) 0 (nc p) = -2) := fun x => absurd x.1 (by decide)
        rw [if_pos zn00, zU_some, if_neg q]
      · have q : (1 : Int32) = 1 ∧ zFF (zG E n g f p e (zGu z mo)) 0 (nc p) = -2 := ⟨rfl, rfl⟩
        rw [if_neg zn10, zU_some, if_pos q]
    | succ c =>
      rw [if_neg (by omega), zo_s]
      rcases ho with rfl | rfl
      · have q : ∀ d i, ¬ ((0 : Int32) = 1 ∧ zFF (zG E n g f p e (zGu z mo)) d i = -2) := fun d i x => absurd x.1 (by decide)
        rw [if_pos zn00, if_neg (q _ _)]
        obtain ⟨SX1, a1, a2⟩ := ih (i + 1) c 0 SX (by omega) (by omega) hX (Or.inl rfl)
        rw [if_neg (q _ _)] at a1
        exact ⟨SX1, a1, a2⟩
      · obtain ⟨SX2, b1, b2⟩ := x_all hH hX hp (by omega : i < nc p) e (zGu z mo i)
        have hX2 := zSX_K hX b2 (by simp) (by decide)
        unfold fX11_remainder
        rw [if_neg zn10, if_neg hmo, if_pos hmo, zU_some]
        rw [show fX2_allStand zN (Int32.ofNat p) (Int32.ofNat i) e (zus (zZ z i * 1103515245 + 12345) 8 - zus (zZ z i * 1103515245 + 12345) 8 / mo * mo) SX = some (if zG E n g f p e (zGu z mo) i = -2 then 1 else 0, SX2) from b1, zB_some, zFF]
        by_cases d : zG E n g f p e (zGu z mo) i = -2
        · rw [if_pos d, if_neg zn10, if_pos d]
          obtain ⟨SX1, a1, a2⟩ := ih (i + 1) c 1 SX2 (by omega) (by omega) hX2 (Or.inr rfl)
          exact ⟨SX1, a1, zK_t b2 a2⟩
        · have q : ¬ ((1 : Int32) = 1 ∧ (100 : Int32) * Int32.ofNat i + zG E n g f p e (zGu z mo) i = -2) := fun x => zG_or E (by omega) g f p e (zGu z mo) (by omega) d x.2
          have q2 : ∀ d i, ¬ ((0 : Int32) = 1 ∧ zFF (zG E n g f p e (zGu z mo)) d i = -2) := fun d i x => absurd x.1 (by decide)
          rw [if_neg d, if_pos zn00, if_neg d, if_neg q]
          obtain ⟨SX1, a1, a2⟩ := ih (i + 1) c 0 SX2 (by omega) (by omega) hX2 (Or.inl rfl)
          rw [if_neg (q2 _ _)] at a1
          exact ⟨SX1, a1, zK_t b2 a2⟩
theorem r_gust_in {E : zE} {np m : Nat} {nc : Nat → Nat} (hE : zOkE E np m nc) {p : Nat} (hp : p < np) (v2 v4 v5 e v9 v10 z : Int32) (hmo : ¬ v4 - v4 / 100 * 100 = 0) (K : Int32 → Int32 → Int32 → Int32 → Int32 → Int32 → Int32 → Int32 → zSt → Option (Int32 × zSt)) : ∀ (fu i c : Nat) (SR : zSt), i + c = nc p → 12 < i + fu → zRV E np m nc SR → (∀ j, j < i → SR.2.1 35 j = zGu z (v4 - v4 / 100 * 100) j) →
    ∃ SR1 : zSt, fX12_gusts_b103 zN K fu v2 v4 v5 (Int32.ofNat p) e (zZ z i) v9 v10 (Int32.ofNat i) SR = (zB (fX12_isOver zN (Int32.ofNat p) e (v2 - v2 / 10 * 10) SR1) fun r8 S9 => if r8 = 0 then K v2 v4 v5 (Int32.ofNat p) e (zZ z (nc p)) v9 (v10 + 1) S9 else K v2 v4 v5 (Int32.ofNat p) e (zZ z (nc p)) (v9 + 1) (v10 + 1) S9) ∧ zKeep [] [35] SR SR1 ∧ ∀ j, j < nc p → SR1.2.1 35 j = zGu z (v4 - v4 / 100 * 100) j := by
  have n6 := hE.1
  have n12 := (hE.2.2.1 p hp).2.1
  intro fu
  induction fu with
  | zero => intro i c SR h1 h2; exact absurd h2 (by omega)
  | succ fu ih =>
    intro i c SR h1 h2 hV hj
    rw [fX12_gusts_b103, if_pos (zin_o (by omega) (by decide)), zo_t (by omega), hV.2.2.1 p hp, zi_le (by omega) (by omega)]
    cases c with
    | zero =>
      have : i = nc p := by omega
      subst this
      rw [if_pos (Nat.le_refl _)]
      exact ⟨SR, rfl, zK_refl _, hj⟩
    | succ c =>
      have z12 : zin (Int32.ofNat i) 12 := zin_o (by omega) (by decide)
      rw [if_neg (by omega), if_pos hmo, if_pos z12, zL_def, zo_t (by omega), zo_s]
      have K0 := zK_A SR 35 i (zGu z (v4 - v4 / 100 * 100) i)
      obtain ⟨SR1, a1, a2, a3⟩ := ih (i + 1) c (zA SR 35 i (zGu z (v4 - v4 / 100 * 100) i)) (by omega) (by omega) (zRV_K hV K0 (by simp) (by decide)) (fun j hj2 => by
        rw [zA_get]
        by_cases q : j = i
        · rw [if_pos q, q]
        · rw [if_neg q]; exact hj j (by omega))
      exact ⟨SR1, a1, zK_t K0 a2, a3⟩
theorem e_gust {E : zE} {np m : Nat} {nc : Nat → Nat} {n : Nat} {g : Nat → Nat} (hH : zH E np m nc n g) {f : Nat} (f4 : f < 4) {p : Nat} (hp : p < np) {v2 : Int32} (e2 : v2 - v2 / 10 * 10 = Int32.ofNat f) (e v5 : Int32) {v4 : Int32} (hmo : ¬ v4 - v4 / 100 * 100 = 0) {T : Nat} (hT : T ≤ 50) (eT : v4 / 100 = Int32.ofNat T) : ∀ (c fu fu2 t : Nat) (z o : Int32) (SX SR : zSt), t + c = T → c < fu → c < fu2 → zSX E np m nc n g (Int32.ofNat f) SX → zRV E np m nc SR → zGrp n g SR →
    ∃ (o1 : Int32) (SX1 SR1 : zSt), fX2_timesOver_b9 zN fu (Int32.ofNat p) e (v4 / 100) (v4 - v4 / 100 * 100) z o (Int32.ofNat t) SX = some (o1, SX1) ∧ fX12_gusts_b90 zN fu2 v2 v4 v5 (Int32.ofNat p) e z o (Int32.ofNat t) SR = fX12_gusts_b178 zN zN v4 v5 (Int32.ofNat p) o1 0 SR1 ∧ zKeep [] [702, 703, 704] SX SX1 ∧ zKeep [] [35] SR SR1 := by
  intro c
  induction c with
  | zero =>
    intro fu fu2 t z o SX SR h1 h2 h3 hX hV hG
    obtain _ | fu := fu
    · exact absurd h2 (by omega)
    obtain _ | fu2 := fu2
    · exact absurd h3 (by omega)
    have el : v4 / 100 ≤ Int32.ofNat t := by rw [eT, zo_le (by omega) (by omega)]; omega
    rw [fX2_timesOver_b9, fX12_gusts_b90, if_pos el, if_pos el]
    exact ⟨o, SX, SR, rfl, rfl, zK_refl _, zK_refl _⟩
  | succ c ih =>
    intro fu fu2 t z o SX SR h1 h2 h3 hX hV hG
    obtain _ | fu := fu
    · exact absurd h2 (by omega)
    obtain _ | fu2 := fu2
    · exact absurd h3 (by omega)
    have el : ¬ v4 / 100 ≤ Int32.ofNat t := by rw [eT, zo_le (by omega) (by omega)]; omega
    rw [fX2_timesOver_b9, fX12_gusts_b90, if_neg el, if_neg el]
    obtain ⟨SX2, a1, a2⟩ := x_gust_in hH hp e (v4 / 100) o (Int32.ofNat t) z hmo (fX2_timesOver_b9 zN fu) zN 0 (nc p) 1 SX (by omega) (by decide) hX (Or.inr rfl)
    obtain ⟨SR2, b1, b2, b3⟩ := r_gust_in hH.1 hp v2 v4 v5 e o (Int32.ofNat t) z hmo (fX12_gusts_b90 zN fu2) zN 0 (nc p) SR (by omega) (by decide) hV (fun j hj => absurd hj (by omega))
    have hV2 := zRV_K hV b2 (by simp) (by decide)
    have hG2 := zGrp_K hG b2 (by simp) (by decide)
    have hX2 := zSX_K hX a2 (by simp) (by decide)
    have ov := r_isOver (U := fun j => SR2.2.1 35 j) hH ⟨hV2, hG2, fun _ _ => rfl⟩ (zn4 f4) hp e
    have ec : zFF (zG E n g (Int32.ofNat f) p e (fun j => SR2.2.1 35 j)) (nc p) 0 = zFF (zG E n g (Int32.ofNat f) p e (zGu z (v4 - v4 / 100 * 100))) (nc p) 0 := zFF_congr _ _ (fun j _ hj => by
      unfold zG
      show zFirst (zMar E n g (Int32.ofNat f) p j e (SR2.2.1 35 j)) n 0 = _
      rw [b3 j (by omega)])
    rw [ec] at ov
    rw [e2, ov, zB_some, zo_s] at b1
    rw [zo_s] at a1
    rw [show fX2_timesOver_b22 zN (fX2_timesOver_b9 zN fu) zN (Int32.ofNat p) e (v4 / 100) (v4 - v4 / 100 * 100) z o (Int32.ofNat t) 1 0 SX = _ from a1, show fX12_gusts_b103 zN (fX12_gusts_b90 zN fu2) zN v2 v4 v5 (Int32.ofNat p) e z o (Int32.ofNat t) 0 SR = _ from b1]
    by_cases d : zFF (zG E n g (Int32.ofNat f) p e (zGu z (v4 - v4 / 100 * 100))) (nc p) 0 = -2
    · rw [if_pos ⟨rfl, d⟩, if_pos d, if_neg zn10]
      obtain ⟨o1, SX3, SR3, i1, i2, i3, i4⟩ := ih fu fu2 (t + 1) (zZ z (nc p)) (o + 1) SX2 SR2 (by omega) (by omega) (by omega) hX2 hV2 hG2
      exact ⟨o1, SX3, SR3, i1, i2, zK_t a2 i3, zK_t b2 i4⟩
    · rw [if_neg (fun x => d x.2), if_neg d, if_pos zn00, Int32.add_zero]
      obtain ⟨o1, SX3, SR3, i1, i2, i3, i4⟩ := ih fu fu2 (t + 1) (zZ z (nc p)) o SX2 SR2 (by omega) (by omega) (by omega) hX2 hV2 hG2
      exact ⟨o1, SX3, SR3, i1, i2, zK_t a2 i3, zK_t b2 i4⟩
theorem r_gust_0 {p : Nat} (hp : p < 6) (v4 v5 v9 : Int32) : ∀ (fu k : Nat) (S : zSt), k ≤ 12 → 12 < k + fu → (∀ j, j < k → S.2.1 35 j = 0) →
    ∃ S1 : zSt, fX12_gusts_b178 zN fu v4 v5 (Int32.ofNat p) v9 (Int32.ofNat k) S = some (if v5 = 0 then v9 else S.2.1 5 p * (v4 / 100 - v9), S1) ∧ zKeep [] [35] S S1 ∧ ∀ j, j < 12 → S1.2.1 35 j = 0 := by
  intro fu
  induction fu with
  | zero => intro k S h1 h2; exact absurd h2 (by omega)
  | succ fu ih =>
    intro k S h1 h2 h3
    have e12 : (12 ≤ Int32.ofNat k) = (12 ≤ k) := zo_le (a := 12) (by omega) (by omega)
    rw [fX12_gusts_b178, zi_of e12]
    by_cases c : 12 ≤ k
    · refine ⟨S, ?_, zK_refl _, fun j hj => h3 j (by omega)⟩
      rw [if_pos c, if_pos (zin_o (by omega) (by decide)), zo_t (by omega)]
      split <;> rfl
    · have K0 := zK_A S 35 k 0
      obtain ⟨S1, a1, a2, a3⟩ := ih (k + 1) (zA S 35 k 0) (by omega) (by omega) (fun j hj => by
        rw [zA_get]
        by_cases q : j = k
        · rw [if_pos q]
        · rw [if_neg q]; exact h3 j (by omega))
      rw [if_neg c, if_pos (zin_o (by omega) (by decide)), zL_def, zo_t (by omega), zo_s]
      exact ⟨S1, a1, zK_t K0 a2, a3⟩
theorem zRel_G {SX SR SR1 : zSt} (hR : zRel SX SR) (k : zKeep [] [35] SR SR1) (h : ∀ j, j < 12 → SR1.2.1 35 j = 0) : zRel SX SR1 := by
  obtain ⟨hT, hP, hPe, hS, hL, hN, hB, hTr, hSh, hC, hG⟩ := hR
  have i2 := fun j => k.1 j (by simp)
  have a2 := fun d (hd : d ∉ [35]) => k.2.1 d hd
  unfold zRel
  rw [i2 2, i2 3, i2 28, i2 26, i2 27, i2 25, i2 24, i2 37, i2 40, i2 42, i2 7, i2 8,
    a2 1 (by decide), a2 4 (by decide), a2 5 (by decide), a2 29 (by decide), a2 30 (by decide), a2 17 (by decide), a2 18 (by decide), a2 19 (by decide), a2 20 (by decide), a2 21 (by decide), a2 38 (by decide), a2 39 (by decide), a2 41 (by decide), a2 43 (by decide), a2 44 (by decide), a2 45 (by decide), a2 9 (by decide), a2 10 (by decide), a2 11 (by decide), a2 12 (by decide), a2 6 (by decide), a2 31 (by decide), a2 32 (by decide), k.2.2]
  refine ⟨hT, hP, hPe, hS, hL, hN, hB, hTr, hSh, hC, fun i i0 i1 => ?_⟩
  obtain ⟨j, hj, rfl⟩ := zo_exlt (k := 12) i0 (by decide) i1
  rw [zo_t (by omega)]
  exact h j hj
theorem q_gusts {SX SR : zSt} (hRel : zRel SX SR) (p1 p2 p3 p4 p5 : Int32) : zEq (fX11_gusts zN p1 p2 p3 p4 p5 SX) (fX12_gusts zN p1 p2 p3 p4 p5 SR) := by
  unfold fX11_gusts fX12_gusts
  refine e_pre hRel p1 p2 _ _ _ (fun E np m nc n g f p hr SX1 SR1 hH hR hX hV f4 hp hh e1 e2 ef => ?_)
  have n6 := hH.1.1
  by_cases c : p4 < 0
  · rw [if_pos c, if_pos c]
    exact zEq_i rfl hR
  · obtain ⟨x, hx, e0, q1, q2⟩ := zdv (Int32.not_lt.mp c) 100 (by decide)
    have q1 : p4 / 100 = Int32.ofNat (x / 100) := q1
    have q2 : p4 - p4 / 100 * 100 = Int32.ofNat (x % 100) := q2
    rw [if_neg c, if_neg c, e_isWithin, e_isWithin, e_isWithin, e_in, e_in, e_in]
    simp only [zU_some, z10]
    have e50 : (1 ≤ p4 / 100 ∧ p4 / 100 ≤ 50) ↔ (1 ≤ x / 100 ∧ x / 100 ≤ 50) := by
      rw [q1]
      show (Int32.ofNat 1 ≤ Int32.ofNat (x / 100) ∧ Int32.ofNat (x / 100) ≤ Int32.ofNat 50) ↔ _
      rw [zo_le (by omega) (by omega), zo_le (by omega) (by omega)]
    have e20 : (1 ≤ p4 - p4 / 100 * 100 ∧ p4 - p4 / 100 * 100 ≤ 20) ↔ (1 ≤ x % 100 ∧ x % 100 ≤ 20) := by
      rw [q2]
      show (Int32.ofNat 1 ≤ Int32.ofNat (x % 100) ∧ Int32.ofNat (x % 100) ≤ Int32.ofNat 20) ↔ _
      rw [zo_le (by omega) (by omega), zo_le (by omega) (by omega)]
    by_cases w : 0 ≤ p5 ∧ p5 ≤ 1
    · by_cases d : 1 ≤ p4 / 100 ∧ p4 / 100 ≤ 50
      · by_cases q : 1 ≤ p4 - p4 / 100 * 100 ∧ p4 - p4 / 100 * 100 ≤ 20
        · have d2 := e50.mp d
          have q3 := e20.mp q
          have hmo : ¬ p4 - p4 / 100 * 100 = 0 := by
            rw [q2]
            show ¬ Int32.ofNat (x % 100) = Int32.ofNat 0
            rw [zo_eq (by omega) (by omega)]
            omega
          obtain ⟨v, SX2, SR2, g1, g2, b, hR2, hX2, hV2, -, -⟩ := e_riseG hR hX hV (Int32.ofNat hr)
          obtain ⟨o1, SX3, SR3, a1, a2, a3, a4⟩ := e_gust hH f4 hp ef v p5 hmo d2.2 q1 (x / 100) zN zN 0 p3 0 SX2 SR2 (by omega) (Nat.lt_of_le_of_lt d2.2 (by decide)) (Nat.lt_of_le_of_lt d2.2 (by decide)) hX2 hV2.1 hV2.2.1
          obtain ⟨SR4, b1, b2, b3⟩ := r_gust_0 (p := p) (by omega) p4 p5 o1 zN 0 SR3 (by omega) (by decide) (fun j hj => absurd hj (by omega))
          have e5 : SR3.2.1 5 = E.2.2.2.2.2 := (a4.2.1 5 (by decide)).trans hV2.1.2.2.2.2.2.2.2.2
          have hR3 := zRel_G (zRel_X hR2 a3 (by simp) (by simp)) (zK_t a4 b2) b3
          have hX3 := zSX_K hX2 a3 (by simp) (by decide)
          unfold fX2_timesOver
          rw [if_neg (not_not_intro w), if_neg (not_not_intro d), if_neg (not_not_intro d), if_neg (not_not_intro q), if_neg (not_not_intro q), if_neg (not_not_intro w), e2, e1, g1, g2, zB_some, zB_some]
          rw [show fX2_timesOver_b9 zN zN (Int32.ofNat p) v (p4 / 100) (p4 - p4 / 100 * 100) p3 0 0 SX2 = _ from a1, show fX12_gusts_b90 zN zN p2 p4 p5 (Int32.ofNat p) v p3 0 0 SR2 = _ from a2, zB_some, show fX12_gusts_b178 zN zN p4 p5 (Int32.ofNat p) o1 0 SR3 = _ from b1]
          by_cases y : p5 = 0
          · rw [if_pos y, if_pos y]
            exact zEq_i rfl hR3
          · rw [if_neg y, if_neg y, x_belowOf hH.1 hX3.1 hp, zB_some, e5]
            exact zEq_i rfl hR3
        · simp only [w, d, q, and_self, not_true_eq_false, not_false_eq_true, if_true, if_false]
          exact zEq_i rfl hR
      · simp only [w, d, and_self, not_true_eq_false, not_false_eq_true, if_true, if_false]
        exact zEq_i rfl hR
    · simp only [w, not_false_eq_true, if_true, ite_self]
      exact zEq_i rfl hR

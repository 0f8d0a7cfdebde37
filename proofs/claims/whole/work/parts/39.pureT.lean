-- line: from the highest rise down
def zdn (t : Nat) : Int32 := Int32.ofInt ((t : Int) - 21)
theorem zdn_i {t : Nat} (h : t ≤ 81) : (zdn t).toInt = (t : Int) - 21 := Int32.toInt_ofInt_of_le (by omega) (by omega)
theorem zdn_lt {t : Nat} (h : t ≤ 81) : (zdn t < -20) = (t = 0) := by
  apply propext
  rw [Int32.lt_iff_toInt_lt, zdn_i h, show (-20 : Int32).toInt = -20 from by decide]
  omega
theorem zdn_s (t : Nat) : zdn (t + 1) + (-1) = zdn t := by
  unfold zdn
  rw [show (-1 : Int32) = Int32.ofInt (-1) from by decide, ← Int32.ofInt_add]
  congr 1
  omega
theorem zdn_le {s t : Nat} (h : t ≤ 81) (h2 : s ≤ t) : zdn s ≤ zdn t := by
  rw [Int32.le_iff_toInt_le, zdn_i h, zdn_i (by omega)]
  omega
theorem zdn_ge {t : Nat} (h : t ≤ 81) : -100 ≤ zdn t := by
  rw [Int32.le_iff_toInt_le, zdn_i h, show (-100 : Int32).toInt = -100 from by decide]
  omega
theorem r_line {E : zE} {np m : Nat} {nc : Nat → Nat} {n : Nat} {g : Nat → Nat} (hH : zH E np m nc n g) {S : zSt} (hS : zSR E np m nc n g (fun _ => 0) S) {f : Int32} (hf : ¬ f = 4) {p : Nat} (hp : p < np) : ∀ (t fu : Nat), t ≤ 81 → t < fu →
    ∃ l : Int32, fX12_lineOf_b3 zN fu (Int32.ofNat p) f (zdn t) S = some (l, S) ∧ (l = -100 ∨ l ≤ zdn t) ∧ -100 ≤ l := by
  intro t
  induction t with
  | zero =>
    intro fu h1 h2
    obtain _ | fu := fu
    · exact absurd h2 (by omega)
    rw [fX12_lineOf_b3, zi_of (zdn_lt h1), if_pos rfl]
    exact ⟨_, rfl, Or.inl rfl, by decide⟩
  | succ t ih =>
    intro fu h1 h2
    obtain _ | fu := fu
    · exact absurd h2 (by omega)
    rw [fX12_lineOf_b3, zi_of (zdn_lt h1), if_neg (show ¬ t + 1 = 0 by omega), r_isOver hH hS hf hp, zB_some]
    by_cases d : zFF (zG E n g f p (zdn (t + 1)) (fun _ => 0)) (nc p) 0 = -2
    · rw [if_pos d, if_neg zn10]
      exact ⟨_, rfl, Or.inr (Int32.le_refl _), zdn_ge h1⟩
    · rw [if_neg d, if_pos zn00, zdn_s]
      obtain ⟨l, a, b, b2⟩ := ih fu (by omega) (by omega)
      exact ⟨l, a, b.imp id (fun x => Int32.le_trans x (zdn_le h1 (by omega))), b2⟩
theorem e_line {E : zE} {np m : Nat} {nc : Nat → Nat} {n : Nat} {g : Nat → Nat} (hH : zH E np m nc n g) {S : zSt} (hS : zSR E np m nc n g (fun _ => 0) S) {f : Int32} (hf : ¬ f = 4) {p : Nat} (hp : p < np) {flo : Int32} (hflo : -100 ≤ flo) : ∀ (t fu fu2 : Nat) (SX : zSt), t ≤ 81 → t < fu → t < fu2 → zSX E np m nc n g f SX →
    ∃ (l r : Int32) (SX1 : zSt), fX12_lineOf_b3 zN fu2 (Int32.ofNat p) f (zdn t) S = some (l, S) ∧ fX2_highestRise_b3 zN fu (Int32.ofNat p) flo (zdn t) SX = some (r, SX1) ∧ zKeep [] [702, 703, 704] SX SX1 ∧ (flo < l → r = l) ∧ (l ≤ flo → r = -100) ∧ -100 ≤ l := by
  intro t
  induction t with
  | zero =>
    intro fu fu2 SX h1 h2 h3 hX
    obtain _ | fu := fu
    · exact absurd h2 (by omega)
    obtain _ | fu2 := fu2
    · exact absurd h3 (by omega)
    rw [fX12_lineOf_b3, zi_of (zdn_lt h1), if_pos rfl, fX2_highestRise_b3, zi_of (zdn_lt h1), if_pos rfl]
    exact ⟨_, _, SX, rfl, rfl, zK_refl _, fun _ => rfl, fun _ => rfl, by decide⟩
  | succ t ih =>
    intro fu fu2 SX h1 h2 h3 hX
    obtain ⟨l, a, b, b2⟩ := r_line hH hS hf hp (t + 1) fu2 h1 h3
    obtain _ | fu := fu
    · exact absurd h2 (by omega)
    obtain _ | fu2 := fu2
    · exact absurd h3 (by omega)
    rw [fX2_highestRise_b3, zi_of (zdn_lt h1), if_neg (show ¬ t + 1 = 0 by omega)]
    by_cases c : zdn (t + 1) ≤ flo
    · rw [if_pos c]
      refine ⟨l, -100, SX, a, rfl, zK_refl _, fun h => ?_, fun _ => rfl, b2⟩
      rcases b with b | b
      · rw [b] at h; exact absurd h (Int32.not_lt.mpr hflo)
      · exact absurd h (Int32.not_lt.mpr (Int32.le_trans b c))
    · obtain ⟨SX2, e1, k1⟩ := x_firstFall hH hp (zdn (t + 1)) hX
      rw [if_neg c, e1, zB_some, fX12_lineOf_b3, zi_of (zdn_lt h1), if_neg (show ¬ t + 1 = 0 by omega), r_isOver hH hS hf hp, zB_some]
      by_cases d : zFF (zG E n g f p (zdn (t + 1)) (fun _ => 0)) (nc p) 0 = -2
      · rw [if_pos d, if_pos d, if_neg zn10]
        exact ⟨_, _, SX2, rfl, rfl, k1, fun _ => rfl, fun h => absurd h c, zdn_ge h1⟩
      · rw [if_neg d, if_neg d, if_pos zn00, zdn_s]
        obtain ⟨l, r, SX3, a1, a2, a3, a4⟩ := ih fu fu2 SX2 (by omega) (by omega) (by omega) (zSX_K hX k1 (by simp) (by decide))
        exact ⟨l, r, SX3, a1, a2, zK_t k1 a3, a4⟩
theorem q_line {SX SR : zSt} (hRel : zRel SX SR) (p1 p2 : Int32) : zEq (fX11_line zN p1 p2 SX) (fX12_line zN p1 p2 SR) := by
  obtain ⟨np, m, nc, E, hE, hX, hV⟩ := zview hRel
  have n6 := hE.1
  have r3 : (0 : Int32) ≤ SR.1 3 := by rw [hV.1]; exact zo_0 (by omega)
  unfold fX11_line fX12_line
  rw [e_has8, e_isPlace _ _ r3, hX.1, hV.1, zB_some, zB_some]
  by_cases c : 0 ≤ p1 ∧ p1 < Int32.ofNat np
  · obtain ⟨p, hp, ep⟩ := zo_exlt c.1 (by omega) c.2
    rw [if_pos c, if_neg zn10, if_neg zn10]
    rcases e_group hE.2.1 hX.2.1 hV.2.1 p2 with ⟨SX1, SR1, b1, b2, k1, k2⟩ | ⟨SX1, SR1, n, g, f, b1, b2, k1, k2, ok, f4, ef, gx, gr⟩
    · rw [b1, b2, zB_some, zB_some, if_pos zn00, if_pos zn00]
      exact zEq_i rfl (zRel_T hRel k1 k2)
    · have hR1 := zRel_T hRel k1 k2
      have hH : zH E np m nc n g := ⟨hE, ok⟩
      have hX1 : zSX E np m nc n g (Int32.ofNat f) SX1 := ⟨zXV_T hX k1, gx⟩
      have hV1 := zSR_of (zRV_T hV k2) gr hR1
      obtain ⟨l, r, SX2, a1, a2, a3, a4, a5, a6⟩ := e_line hH hV1 (zn4 f4) hp (flo := -100) (by decide) 81 zN zN SX1 (by omega) (by decide) (by decide) hX1
      unfold fX2_highestRise fX12_lineOf
      rw [b1, b2, zB_some, zB_some, if_neg zn10, if_neg zn10, ef, ep]
      rw [show fX2_highestRise_b3 zN zN (Int32.ofNat p) (-100) 60 SX1 = _ from a2, show fX12_lineOf_b3 zN zN (Int32.ofNat p) (Int32.ofNat f) 60 SR1 = _ from a1]
      refine zEq_i ?_ (zRel_X hR1 a3 (by simp) (by simp))
      by_cases d : -100 < l
      · exact a4 d
      · exact (a5 (Int32.not_lt.mp d)).trans (Int32.le_antisymm a6 (Int32.not_lt.mp d))
  · rw [if_neg c, if_pos zn00, if_pos zn00]
    exact zEq_i rfl hRel
-- await
theorem e_darkX (h : Int32) : fX11_isDark h = some (if 5 ≤ h - h / 24 * 24 ∧ h - h / 24 * 24 ≤ 19 then 0 else 1) := by
  unfold fX11_isDark
  rw [e_isWithin, zU_some]
  by_cases c : 5 ≤ h - h / 24 * 24 ∧ h - h / 24 * 24 ≤ 19
  · rw [if_pos c, if_neg zn10, if_pos c]
  · rw [if_neg c, if_pos zn00, if_neg c]
theorem e_darkR (h : Int32) : fX12_isDark h = some (if 5 ≤ h - h / 24 * 24 ∧ h - h / 24 * 24 ≤ 19 then 0 else 1) := by
  unfold fX12_isDark fX12_isDark_b17
  by_cases c : h - h / 24 * 24 < 5
  · have q : ¬ (5 ≤ h - h / 24 * 24 ∧ h - h / 24 * 24 ≤ 19) := fun x => Int32.not_lt.mpr x.1 c
    rw [if_pos c, if_neg q]
  · rw [if_neg c]
    by_cases d : h - h / 24 * 24 ≤ 19
    · have q : 5 ≤ h - h / 24 * 24 ∧ h - h / 24 * 24 ≤ 19 := ⟨Int32.not_lt.mp c, d⟩
      rw [if_pos d, if_pos q]
    · have q : ¬ (5 ≤ h - h / 24 * 24 ∧ h - h / 24 * 24 ≤ 19) := fun x => d x.2
      rw [if_neg d, if_neg q]
theorem e_await {E : zE} {np m : Nat} {nc : Nat → Nat} {n : Nat} {g : Nat → Nat} (hH : zH E np m nc n g) {f p : Nat} (f4 : f < 4) (hp : p < np) {p1 p2 : Int32} (e1 : p1 / 100 = Int32.ofNat p) (ef : p2 - p2 / 10 * 10 = Int32.ofNat f) : ∀ (fu fu2 h : Nat) (SX SR : zSt), h ≤ 48 → 48 < h + fu → 48 < h + fu2 → zRel SX SR → zSX E np m nc n g (Int32.ofNat f) SX → zSR E np m nc n g (fun _ => 0) SR →
    zEq (fX2_firstHourOver_b2 zN fu (Int32.ofNat p) (Int32.ofNat h) SX) (fX12_await_b23 zN fu2 p1 p2 (Int32.ofNat h) SR) := by
  intro fu
  induction fu with
  | zero => intro fu2 h SX SR h1 h2; exact absurd h2 (by omega)
  | succ fu ih =>
    intro fu2 h SX SR h1 h2 h3 hR hX hV
    obtain _ | fu2 := fu2
    · exact absurd h3 (by omega)
    have e48 : (48 ≤ Int32.ofNat h) = (48 ≤ h) := zo_le (a := 48) (by omega) (by omega)
    rw [fX2_firstHourOver_b2, fX12_await_b23, zi_of e48, zi_of e48]
    by_cases c : 48 ≤ h
    · rw [if_pos c, if_pos c]
      exact zEq_i rfl hR
    · rw [if_neg c, if_neg c, e_darkX, e_darkR, zU_some, zU_some, zo_s]
      by_cases d : 5 ≤ Int32.ofNat h - Int32.ofNat h / 24 * 24 ∧ Int32.ofNat h - Int32.ofNat h / 24 * 24 ≤ 19
      · obtain ⟨v, SX2, SR2, g1, g2, b, hR2, hX2, hV2, -, -⟩ := e_riseG hR hX hV (Int32.ofNat h)
        obtain ⟨SX3, a1, k1⟩ := x_firstFall hH hp v hX2
        have a2 := r_isOver hH hV2 (zn4 f4) hp v
        have hR3 := zRel_X hR2 k1 (by simp) (by simp)
        rw [if_pos d, if_pos zn00, if_pos zn00, g1, g2, zB_some, zB_some, a1, zB_some, e1, ef, a2, zB_some]
        by_cases q : zFF (zG E n g (Int32.ofNat f) p v (fun _ => 0)) (nc p) 0 = -2
        · rw [if_pos q, if_pos q, if_neg zn10]
          exact zEq_i rfl hR3
        · rw [if_neg q, if_neg q, if_pos zn00]
          exact ih fu2 (h + 1) SX3 SR2 (by omega) (by omega) (by omega) hR3 (zSX_K hX2 k1 (by simp) (by decide)) hV2
      · rw [if_neg d, if_neg zn10, if_neg zn10]
        exact ih fu2 (h + 1) SX SR (by omega) (by omega) (by omega) hR hX hV
theorem zEq_B {a b : Option (Int32 × zSt)} (h : zEq a b) : zEq (zB a fun r9 S10 => some (r9, S10)) b := by
  obtain ⟨r, SX, SR, e1, e2, hR⟩ := h
  rw [e1, e2]
  exact zEq_i rfl hR
theorem q_await {SX SR : zSt} (hRel : zRel SX SR) (p1 p2 : Int32) : zEq (fX11_await zN p1 p2 SX) (fX12_await zN p1 p2 SR) := by
  unfold fX11_await fX12_await
  refine e_pre hRel p1 p2 _ _ _ (fun E np m nc n g f p hr SX1 SR1 hH hR hX hV f4 hp hh e1 e2 ef => ?_)
  unfold fX2_firstHourOver
  rw [e2, e1]
  exact zEq_B (e_await hH f4 hp e1 ef zN zN hr SX1 SR1 (by omega) (Nat.lt_of_lt_of_le (by decide : 48 < zN) (Nat.le_add_left _ _)) (Nat.lt_of_lt_of_le (by decide : 48 < zN) (Nat.le_add_left _ _)) hR hX hV)
-- midst
theorem zh47 {x : Int32} (h : 48 ≤ x) : ¬ x < 47 := by grind
theorem zh47b {x : Int32} (h : ¬ 48 ≤ x) (h2 : ¬ x < 47) : x = 47 := by grind
theorem e_hour (a b c : Int32) : fX2_hourAfter a b c = some (zmn 47 (a + b * c / 60)) ∧ fX12_hourBy a b c = some (zmn 47 (a + b * c / 60)) := by
  unfold fX2_hourAfter fX12_hourBy zmn
  refine ⟨rfl, ?_⟩
  generalize a + b * c / 60 = x
  by_cases q : 48 ≤ x
  · rw [if_pos q, if_neg (zh47 q)]
  · rw [if_neg q]
    by_cases w : x < 47
    · rw [if_pos w]
    · rw [if_neg w, zh47b q w]
theorem e_midst1 {E : zE} {np m : Nat} {nc : Nat → Nat} {n : Nat} {g : Nat → Nat} (hH : zH E np m nc n g) {f p : Nat} (f4 : f < 4) (hp : p < np) {p1 p2 p3 p4 : Int32} (ef : p2 - p2 / 10 * 10 = Int32.ofNat f) : ∀ (fu fu2 i : Nat) (SX SR : zSt), i ≤ nc p → 12 < i + fu → 12 < i + fu2 → zRel SX SR → zSX E np m nc n g (Int32.ofNat f) SX → zSR E np m nc n g (fun _ => 0) SR →
    ∃ (j : Nat) (SX1 SR1 : zSt), fX2_stoppedIn_b3 zN fu (Int32.ofNat p) (p1 - p1 / 100 * 100) p3 (Int32.ofNat i) SX = some (Int32.ofNat j, SX1) ∧ fX12_midst_b47 zN fu2 p1 p2 p3 p4 (Int32.ofNat p) (Int32.ofNat i) SR = fX12_midst_b98 zN p1 p2 p3 p4 (Int32.ofNat p) (Int32.ofNat j) SR1 ∧ j ≤ nc p ∧ zRel SX1 SR1 ∧ zSX E np m nc n g (Int32.ofNat f) SX1 ∧ zSR E np m nc n g (fun _ => 0) SR1 := by
  have n6 := hH.1.1
  have n12 := (hH.1.2.2.1 p hp).2.1
  intro fu
  induction fu with
  | zero => intro fu2 i SX SR h1 h2; exact absurd h2 (by omega)
  | succ fu ih =>
    intro fu2 i SX SR h1 h2 h3 hR hX hV
    obtain _ | fu2 := fu2
    · exact absurd h3 (by omega)
    rw [fX2_stoppedIn_b3, fX12_midst_b47, x_cellsOf hH.1 hX.1 hp, zB_some, if_pos (zin_o (by omega) (by decide)), zo_t (by omega), hV.1.2.2.1 p hp, zi_le (by omega) (by omega), zi_le (by omega) (by omega)]
    by_cases c : nc p ≤ i
    · rw [if_pos c, if_pos c]
      exact ⟨i, SX, SR, rfl, rfl, h1, hR, hX, hV⟩
    · obtain ⟨v, SX2, SR2, g1, g2, b, hR2, hX2, hV2, -, -⟩ := e_riseG hR hX hV (zmn 47 ((p1 - p1 / 100 * 100) + Int32.ofNat i * p3 / 60))
      obtain ⟨SX3, a1, k1⟩ := x_all hH hX2 hp (by omega : i < nc p) v 0
      have a2 := r_allStand hH hV2 (zn4 f4) hp (by omega : i < 12) v
      have hR3 := zRel_X hR2 k1 (by simp) (by simp)
      rw [if_neg c, if_neg c, (e_hour _ _ _).1, (e_hour _ _ _).2, zU_some, zU_some, g1, g2, zB_some, zB_some, a1, zB_some, ef, a2, zB_some, zo_s]
      show ∃ (j : Nat) (SX1 SR1 : zSt), (if (if zG E n g (Int32.ofNat f) p v (fun _ => 0) i = -2 then (1 : Int32) else 0) = 0 then _ else _) = _ ∧ _
      by_cases q : zG E n g (Int32.ofNat f) p v (fun _ => 0) i = -2
      · rw [if_pos q, if_neg zn10, if_neg zn10]
        exact ih fu2 (i + 1) SX3 SR2 (by omega) (by omega) (by omega) hR3 (zSX_K hX2 k1 (by simp) (by decide)) hV2
      · rw [if_neg q, if_pos zn00, if_pos zn00]
        exact ⟨i, SX3, SR2, rfl, rfl, h1, hR3, zSX_K hX2 k1 (by simp) (by decide), hV2⟩
theorem zo_neg1 : (Int32.ofNat 0 - 1 < 0) = True := by decide
theorem e_midst2 {E : zE} {np m : Nat} {nc : Nat → Nat} {n : Nat} {g : Nat → Nat} (hH : zH E np m nc n g) {f p : Nat} (f4 : f < 4) (hp : p < np) {p1 p2 p3 v4 : Int32} (ef : p2 - p2 / 10 * 10 = Int32.ofNat f) : ∀ (c fu fu2 : Nat) (SX SR : zSt), c ≤ nc p → c < fu → c < fu2 → zRel SX SR → zSX E np m nc n g (Int32.ofNat f) SX → zSR E np m nc n g (fun _ => 0) SR →
    ∃ (r : Int32) (SX1 SR1 : zSt), fX2_comesBack_b6 zN fu (Int32.ofNat p) (p1 - p1 / 100 * 100) p3 v4 (Int32.ofNat c - 1) SX = some (r, SX1) ∧ fX12_midst_b127 zN fu2 p1 p2 p3 (Int32.ofNat p) v4 (Int32.ofNat c - 1) SR = some (r, SR1) ∧ (r = 0 ∨ r = 1) ∧ zRel SX1 SR1 := by
  have n12 := (hH.1.2.2.1 p hp).2.1
  intro c
  induction c with
  | zero =>
    intro fu fu2 SX SR h1 h2 h3 hR hX hV
    obtain _ | fu := fu
    · exact absurd h2 (by omega)
    obtain _ | fu2 := fu2
    · exact absurd h3 (by omega)
    rw [fX2_comesBack_b6, fX12_midst_b127, if_pos (show Int32.ofNat 0 - 1 < 0 by decide), if_pos (show Int32.ofNat 0 - 1 < 0 by decide)]
    exact ⟨1, SX, SR, rfl, rfl, Or.inr rfl, hR⟩
  | succ c ih =>
    intro fu fu2 SX SR h1 h2 h3 hR hX hV
    obtain _ | fu := fu
    · exact absurd h2 (by omega)
    obtain _ | fu2 := fu2
    · exact absurd h3 (by omega)
    have ec : Int32.ofNat (c + 1) - 1 = Int32.ofNat c := zo_p (by omega)
    have em : Int32.ofNat c + (-1) = Int32.ofNat c - 1 := (Int32.sub_eq_add_neg _ _).symm
    rw [fX2_comesBack_b6, fX12_midst_b127, ec, if_neg (Int32.not_lt.mpr (zo_0 (by omega))), if_neg (Int32.not_lt.mpr (zo_0 (by omega))), (e_hour _ _ _).1, (e_hour _ _ _).2, zU_some, zU_some, em]
    obtain ⟨v, SX2, SR2, g1, g2, b, hR2, hX2, hV2, -, -⟩ := e_riseG hR hX hV (zmn 47 ((p1 - p1 / 100 * 100) + (2 * v4 - 1 - Int32.ofNat c) * p3 / 60))
    obtain ⟨SX3, a1, k1⟩ := x_all hH hX2 hp (by omega : c < nc p) v 0
    have a2 := r_allStand hH hV2 (zn4 f4) hp (by omega : c < 12) v
    have hR3 := zRel_X hR2 k1 (by simp) (by simp)
    rw [g1, g2, zB_some, zB_some, a1, zB_some, ef, a2, zB_some]
    show ∃ (r : Int32) (SX1 SR1 : zSt), (if (if zG E n g (Int32.ofNat f) p v (fun _ => 0) c = -2 then (1 : Int32) else 0) = 0 then _ else _) = _ ∧ _
    by_cases q : zG E n g (Int32.ofNat f) p v (fun _ => 0) c = -2
    · rw [if_pos q, if_neg zn10, if_neg zn10]
      exact ih fu fu2 SX3 SR2 (by omega) (by omega) (by omega) hR3 (zSX_K hX2 k1 (by simp) (by decide)) hV2
    · rw [if_neg q, if_pos zn00, if_pos zn00]
      exact ⟨0, SX3, SR2, rfl, rfl, Or.inl rfl, hR3⟩
theorem q_midst {SX SR : zSt} (hRel : zRel SX SR) (p1 p2 p3 p4 : Int32) : zEq (fX11_midst zN p1 p2 p3 p4 SX) (fX12_midst zN p1 p2 p3 p4 SR) := by
  unfold fX11_midst fX12_midst
  refine e_pre hRel p1 p2 _ _ _ (fun E np m nc n g f p hr SX1 SR1 hH hR hX hV f4 hp hh e1 e2 ef => ?_)
  have n6 := hH.1.1
  have n12 := (hH.1.2.2.1 p hp).2.1
  rw [e_isWithin, e_in, zU_some, zU_some]
  by_cases c : 1 ≤ p3 ∧ p3 ≤ 60
  · rw [if_pos c, if_neg zn10, if_neg zn10, e_isWithin, e_in, zU_some, zU_some]
    by_cases d : 0 ≤ p4 ∧ p4 ≤ 1
    · obtain ⟨j, SX2, SR2, a1, a2, hj, hR2, hX2, hV2⟩ := e_midst1 hH (p1 := p1) (p3 := p3) (p4 := p4) f4 hp ef zN zN 0 SX1 SR1 (by omega) (by decide) (by decide) hR hX hV
      unfold fX2_stoppedIn
      rw [e2] at a1
      rw [if_pos d, if_neg zn10, if_neg zn10, e2, e1]
      rw [show fX2_stoppedIn_b3 zN zN (Int32.ofNat p) (Int32.ofNat hr) p3 0 SX1 = _ from a1, show fX12_midst_b47 zN zN p1 p2 p3 p4 (Int32.ofNat p) 0 SR1 = _ from a2, zB_some]
      unfold fX12_midst_b98
      by_cases q : p4 = 0
      · rw [if_pos q, if_pos q]
        exact zEq_i rfl hR2
      · rw [if_neg q, if_neg q, x_cellsOf hH.1 hX2.1 hp, zB_some, if_pos (zin_o (by omega) (by decide)), zo_t (by omega), hV2.1.2.2.1 p hp]
        by_cases w : Int32.ofNat j = Int32.ofNat (nc p)
        · rw [if_pos w, if_pos w]
          exact zEq_i rfl hR2
        · obtain ⟨r, SX3, SR3, b1, b2, b3, hR3⟩ := e_midst2 hH (p1 := p1) (p3 := p3) (v4 := Int32.ofNat j) f4 hp ef j zN zN SX2 SR2 hj (Nat.lt_of_le_of_lt (by omega : j ≤ 12) (by decide)) (Nat.lt_of_le_of_lt (by omega : j ≤ 12) (by decide)) hR2 hX2 hV2
          unfold fX2_comesBack
          rw [e2] at b1
          rw [if_neg w, if_neg w, b1, b2, zB_some]
          rcases b3 with rfl | rfl
          · exact zEq_i rfl hR3
          · exact zEq_i rfl hR3
    · rw [if_neg d, if_pos zn00, if_pos zn00]
      exact zEq_i rfl hR
  · rw [if_neg c, if_pos zn00, if_pos zn00]
    exact zEq_i rfl hR

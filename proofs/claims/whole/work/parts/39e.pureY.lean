-- mustNot
theorem zsub_neg {a b : Int32} (ha : zbd 50400 a) (hb : zbd 2147483 b) : (a - b < 0) = ¬ (b ≤ a) := by
  apply propext
  unfold zbd at *
  rw [Int32.lt_iff_toInt_lt, Int32.le_iff_toInt_le, Int32.toInt_sub, zbm (by omega), show (0 : Int32).toInt = 0 from by decide]
  omega
/-- who falls in a CELL as the last of a row -/
def zLast (E : zE) (p i : Nat) (e : Int32) (q : Nat) : Prop := E.2.1 q ≤ zDep E p i e ∨ ¬ zPush E q (zDep E p i e) (zPac E p i e) 40 ≤ zPlain E q (zDep E p i e) (zBed E p i)
theorem zMar4 {E : zE} {np m : Nat} {nc : Nat → Nat} (hE : zOkE E np m nc) {p i q : Nat} (hp : p < np) (hi : i < nc p) (hq : q < m) (e : Int32) (n : Nat) : (¬ 0 ≤ zMar E n (fun k => k) 4 p i e 0 q) ↔ zLast E p i e q := by
  obtain ⟨-, -, b0, b9⟩ := (hE.2.2.1 p hp).2.2 i hi
  unfold zMar zMarg zLast
  by_cases c : E.2.1 q ≤ zDep E p i e
  · rw [if_pos c]
    exact ⟨fun _ => Or.inl c, fun _ => by decide⟩
  · rw [if_neg c, Int32.add_zero]
    have eh : zHold E n (fun k => k) 4 (zDep E p i e) (zBed E p i) q = zPlain E q (zDep E p i e) (zBed E p i) := rfl
    have el : zLee 4 q = 40 := rfl
    have hl : (zPlain E q (zDep E p i e) (zBed E p i) - zPush E q (zDep E p i e) (zPac E p i e) 40 < 0) = _ := zsub_neg (zbd_plain hE hq (zmx_0 _) b0 b9) (show zbd 2147483 (zPush E q (zDep E p i e) (zPac E p i e) 40) from zbd_1000 _)
    rw [eh, el, Int32.not_le, hl]
    exact ⟨Or.inr, fun x => x.elim (fun y => absurd y c) id⟩
theorem x_each {m : Nat} (hm : m ≤ 8) : ∀ (fu k : Nat) (S : zSt), k ≤ m → 8 < k + fu → S.1 705 = Int32.ofNat m → (∀ j, j < k → S.2.1 701 j = Int32.ofNat j) →
    ∃ S1 : zSt, fX6_takeEachAsLast_b18 zN fu (Int32.ofNat k) S = some S1 ∧ zKeep [] [701] S S1 ∧ ∀ j, j < m → S1.2.1 701 j = Int32.ofNat j := by
  intro fu
  induction fu with
  | zero => intro k S h1 h2; exact absurd h2 (by omega)
  | succ fu ih =>
    intro k S h1 h2 h5 hj
    rw [fX6_takeEachAsLast_b18, h5, zi_le (by omega) (by omega)]
    by_cases c : m ≤ k
    · rw [if_pos c]
      exact ⟨S, rfl, zK_refl _, fun j h => hj j (by omega)⟩
    · have K0 := zK_A S 701 k (Int32.ofNat k)
      rw [if_neg c, if_pos (zin_o (by omega) (by decide)), zL_def, zo_t (by omega), zo_s]
      obtain ⟨S1, a1, a2, a3⟩ := ih (k + 1) (zA S 701 k (Int32.ofNat k)) (by omega) (by omega) h5 (fun j h => by
        rw [zA_get]
        by_cases q : j = k
        · rw [if_pos q, q]
        · rw [if_neg q]; exact hj j (by omega))
      exact ⟨S1, a1, zK_t K0 a2, a3⟩
theorem x_fallers {F : Nat → Int32} {m : Nat} (hm : m ≤ 8) {S : zSt} (h5 : S.1 705 = Int32.ofNat m) (hF : ∀ j, j < m → S.2.1 704 j = F j) : ∀ (fu k c : Nat) (a : Int32), k + c = m → 8 < k + fu →
    ∃ r : Int32, fX6_fallers_b4 zN fu a (Int32.ofNat k) S = some (r, S) ∧ ∀ j, j < 32 → (zb r j = true ↔ zb a j = true ∨ (k ≤ j ∧ j < m ∧ ¬ 0 ≤ F j)) := by
  intro fu
  induction fu with
  | zero => intro k c a h1 h2; exact absurd h2 (by omega)
  | succ fu ih =>
    intro k c a h1 h2
    rw [fX6_fallers_b4, h5, zi_le (by omega) (by omega)]
    cases c with
    | zero =>
      rw [if_pos (by omega)]
      exact ⟨a, rfl, fun j hj => ⟨Or.inl, fun x => x.elim id (fun y => absurd y.2.1 (by omega))⟩⟩
    | succ c =>
      rw [if_neg (by omega), if_pos (zin_o (by omega) (by decide)), zo_t (by omega), hF k (by omega), zo_s]
      by_cases d : 0 ≤ F k
      · rw [if_pos d]
        obtain ⟨r, a1, a2⟩ := ih (k + 1) c a (by omega) (by omega)
        refine ⟨r, a1, fun j hj => (a2 j hj).trans ⟨?_, ?_⟩⟩
        · rintro (x | ⟨x, y, z⟩)
          · exact Or.inl x
          · exact Or.inr ⟨by omega, y, z⟩
        · rintro (x | ⟨x, y, z⟩)
          · exact Or.inl x
          · by_cases q : j = k
            · rw [q] at z; exact absurd d z
            · exact Or.inr ⟨by omega, y, z⟩
      · rw [if_neg d]
        obtain ⟨r, a1, a2⟩ := ih (k + 1) c (a ||| (1 <<< (Int32.ofNat k &&& 31))) (by omega) (by omega)
        refine ⟨r, a1, fun j hj => (a2 j hj).trans ?_⟩
        rw [zb_or a hj (by omega)]
        constructor
        · rintro (x | ⟨x, y, z⟩)
          · by_cases q : j = k
            · exact Or.inr ⟨by omega, by omega, by rw [q]; exact d⟩
            · simp only [q, decide_false, Bool.or_false] at x
              exact Or.inl x
          · exact Or.inr ⟨by omega, y, z⟩
        · rintro (x | ⟨x, y, z⟩)
          · exact Or.inl (by rw [x]; rfl)
          · by_cases q : j = k
            · exact Or.inl (by simp [q])
            · exact Or.inr ⟨by omega, y, z⟩
theorem zb_orb (s t : Int32) (j : Nat) : zb (s ||| t) j = (zb s j || zb t j) := by
  show (s.toBitVec ||| t.toBitVec).getLsbD j = _
  rw [BitVec.getLsbD_or]
  rfl
theorem x_last {E : zE} {np m : Nat} {nc : Nat → Nat} (hE : zOkE E np m nc) {p : Nat} (hp : p < np) (e : Int32) : ∀ (fu i c : Nat) (a : Int32) (S : zSt), i + c = nc p → 12 < i + fu → zXV E np m nc S → zGX m (fun k => k) 4 S →
    ∃ (r : Int32) (S1 : zSt), fX2_fallersAsLast_b12 zN fu (Int32.ofNat p) e a (Int32.ofNat i) S = some (r, S1) ∧ zKeep [] [702, 703, 704] S S1 ∧ ∀ j, j < 32 → (zb r j = true ↔ zb a j = true ∨ (j < m ∧ ∃ i2, i ≤ i2 ∧ i2 < nc p ∧ zLast E p i2 e j)) := by
  have m8 := hE.2.1
  have n12 := (hE.2.2.1 p hp).2.1
  intro fu
  induction fu with
  | zero => intro i c a S h1 h2; exact absurd h2 (by omega)
  | succ fu ih =>
    intro i c a S h1 h2 hX hG
    rw [fX2_fallersAsLast_b12, x_cellsOf hE hX hp, zB_some, zi_le (by omega) (by omega)]
    cases c with
    | zero =>
      rw [if_pos (by omega)]
      exact ⟨a, S, rfl, zK_refl _, fun j hj => ⟨Or.inl, fun x => x.elim id (fun y => by obtain ⟨_, i2, h, h3, _⟩ := y; omega)⟩⟩
    | succ c =>
      obtain ⟨S1, e1, k1, r1⟩ := x_enter hE m8 (fun k hk => hk) (fun h => absurd h (by decide)) (fun h => absurd h (by decide)) hX hG hp (by omega : i < nc p) e 0
      have h5 : S1.1 705 = Int32.ofNat m := (k1.1 705 (by simp)).trans hG.1
      obtain ⟨r, f1, f2⟩ := x_fallers m8 h5 (fun j hj => (r1 j hj).2.2) zN 0 m 0 (by omega) (by decide)
      unfold fX6_fallers
      rw [if_neg (by omega), e1, zU_some, show fX6_fallers_b4 zN zN 0 0 S1 = _ from f1, zB_some, zo_s]
      obtain ⟨r2, S2, a1, a2, a3⟩ := ih (i + 1) c (a ||| r) S1 (by omega) (by omega) (zXV_K hX k1 (by simp) (by decide)) (zGX_K hG k1 (by simp) (by decide))
      refine ⟨r2, S2, a1, zK_t k1 a2, fun j hj => (a3 j hj).trans ?_⟩
      rw [zb_orb, Bool.or_eq_true, f2 j hj, zb_0]
      constructor
      · rintro ((x | x | ⟨-, y, z⟩) | ⟨y, i2, x1, x2, z⟩)
        · exact Or.inl x
        · exact absurd x (by decide)
        · exact Or.inr ⟨y, i, by omega, by omega, (zMar4 hE hp (by omega) y e m).mp z⟩
        · exact Or.inr ⟨y, i2, by omega, x2, z⟩
      · rintro (x | ⟨y, i2, x1, x2, z⟩)
        · exact Or.inl (Or.inl x)
        · by_cases q : i2 = i
          · rw [q] at z
            exact Or.inl (Or.inr (Or.inr ⟨by omega, y, (zMar4 hE hp (by omega) y e m).mpr z⟩))
          · exact Or.inr ⟨y, i2, by omega, x2, z⟩
theorem r_last_in {E : zE} {np m : Nat} {nc : Nat → Nat} (hE : zOkE E np m nc) {S : zSt} (hV : zRV E np m nc S) {p q : Nat} (hp : p < np) (hq : q < m) (e : Int32) (K : Int32 → Int32 → Int32 → Int32 → zSt → Option (Int32 × zSt)) : ∀ (fu i c : Nat) (a : Int32), i + c = nc p → 12 < i + fu →
    ∃ r : Int32, fX12_mustNot_b46 zN K fu (Int32.ofNat p) e a (Int32.ofNat q) (Int32.ofNat i) S = K (Int32.ofNat p) e r (Int32.ofNat (q + 1)) S ∧ ∀ j, j < 32 → (zb r j = true ↔ zb a j = true ∨ (j = q ∧ ∃ i2, i ≤ i2 ∧ i2 < nc p ∧ zLast E p i2 e j)) := by
  have n6 := hE.1
  have m8 := hE.2.1
  have n12 := (hE.2.2.1 p hp).2.1
  have z8 : zin (Int32.ofNat q) 8 := zin_o (by omega) (by decide)
  intro fu
  induction fu with
  | zero => intro i c a h1 h2; exact absurd h2 (by omega)
  | succ fu ih =>
    intro i c a h1 h2
    rw [fX12_mustNot_b46, if_pos (zin_o (by omega) (by decide)), zo_t (by omega), hV.2.2.1 p hp, zi_le (by omega) (by omega)]
    cases c with
    | zero =>
      rw [if_pos (by omega), zo_s]
      exact ⟨a, rfl, fun j hj => ⟨Or.inl, fun x => x.elim id (fun y => by obtain ⟨_, i2, h, h3, _⟩ := y; omega)⟩⟩
    | succ c =>
      unfold fX12_mustNot_b124
      rw [if_neg (by omega), r_depth hE hV hp (by omega), zB_some, if_pos z8, zo_t (by omega), hV.2.2.2.2.1, zix2, if_pos (zin_o (by omega) (by decide)), zo_t (by omega), hV.2.2.2.2.2.2.2.1, zo_s]
      have hit : zLast E p i e q → ∃ r : Int32, fX12_mustNot_b46 zN K fu (Int32.ofNat p) e (a ||| (1 <<< (Int32.ofNat q &&& 31))) (Int32.ofNat q) (Int32.ofNat (i + 1)) S = K (Int32.ofNat p) e r (Int32.ofNat (q + 1)) S ∧ ∀ j, j < 32 → (zb r j = true ↔ zb a j = true ∨ (j = q ∧ ∃ i2, i ≤ i2 ∧ i2 < nc p ∧ zLast E p i2 e j)) := fun hl => by
        obtain ⟨r, a1, a2⟩ := ih (i + 1) c (a ||| (1 <<< (Int32.ofNat q &&& 31))) (by omega) (by omega)
        refine ⟨r, a1, fun j hj => (a2 j hj).trans ?_⟩
        rw [zb_or a hj (by omega)]
        constructor
        · rintro (x | ⟨y, i2, x1, x2, z⟩)
          · by_cases w : j = q
            · exact Or.inr ⟨w, i, by omega, by omega, by rw [w]; exact hl⟩
            · simp only [w, decide_false, Bool.or_false] at x
              exact Or.inl x
          · exact Or.inr ⟨y, i2, by omega, x2, z⟩
        · rintro (x | ⟨y, -⟩)
          · exact Or.inl (by rw [x]; rfl)
          · exact Or.inl (by simp [y])
      have mis : ¬ zLast E p i e q → ∃ r : Int32, fX12_mustNot_b46 zN K fu (Int32.ofNat p) e a (Int32.ofNat q) (Int32.ofNat (i + 1)) S = K (Int32.ofNat p) e r (Int32.ofNat (q + 1)) S ∧ ∀ j, j < 32 → (zb r j = true ↔ zb a j = true ∨ (j = q ∧ ∃ i2, i ≤ i2 ∧ i2 < nc p ∧ zLast E p i2 e j)) := fun hl => by
        obtain ⟨r, a1, a2⟩ := ih (i + 1) c a (by omega) (by omega)
        refine ⟨r, a1, fun j hj => (a2 j hj).trans ?_⟩
        constructor
        · rintro (x | ⟨y, i2, x1, x2, z⟩)
          · exact Or.inl x
          · exact Or.inr ⟨y, i2, by omega, x2, z⟩
        · rintro (x | ⟨y, i2, x1, x2, z⟩)
          · exact Or.inl x
          · by_cases w : i2 = i
            · rw [w, y] at z; exact absurd z hl
            · exact Or.inr ⟨y, i2, by omega, x2, z⟩
      by_cases d : E.2.1 q ≤ zDep E p i e
      · rw [if_pos d]
        exact hit (Or.inl d)
      · have rp := r_plain hE hV hq (zDep E p i e) (zBed E p i)
        rw [if_neg d, show fX12_plainHold (Int32.ofNat q) (zDep E p i e) (E.2.2.2.2.1 (36 * p + 3 * i + 2)) S = _ from rp, zB_some, r_pace hE hV hp (by omega), zB_some, r_push hE hV hq, zB_some]
        by_cases w : zPush E q (zDep E p i e) (zPac E p i e) 40 ≤ zPlain E q (zDep E p i e) (zBed E p i)
        · rw [if_pos w]
          exact mis (fun x => x.elim d (fun y => y w))
        · rw [if_neg w]
          exact hit (Or.inr w)
theorem r_last {E : zE} {np m : Nat} {nc : Nat → Nat} (hE : zOkE E np m nc) {S : zSt} (hV : zRV E np m nc S) {p : Nat} (hp : p < np) (e : Int32) : ∀ (c fu q : Nat) (a : Int32), q + c = m → c < fu →
    ∃ r : Int32, fX12_mustNot_b34 zN fu (Int32.ofNat p) e a (Int32.ofNat q) S = some (r, S) ∧ ∀ j, j < 32 → (zb r j = true ↔ zb a j = true ∨ (q ≤ j ∧ j < m ∧ ∃ i2, i2 < nc p ∧ zLast E p i2 e j)) := by
  have m8 := hE.2.1
  intro c
  induction c with
  | zero =>
    intro fu q a h1 h2
    obtain _ | fu := fu
    · exact absurd h2 (by omega)
    rw [fX12_mustNot_b34, hV.2.1, zi_le (by omega) (by omega), if_pos (by omega)]
    exact ⟨a, rfl, fun j hj => ⟨Or.inl, fun x => x.elim id (fun y => by omega)⟩⟩
  | succ c ih =>
    intro fu q a h1 h2
    obtain _ | fu := fu
    · exact absurd h2 (by omega)
    rw [fX12_mustNot_b34, hV.2.1, zi_le (by omega) (by omega), if_neg (by omega)]
    obtain ⟨r, a1, a2⟩ := r_last_in hE hV hp (by omega : q < m) e (fX12_mustNot_b34 zN fu) zN 0 (nc p) a (by omega) (by decide)
    obtain ⟨r2, b1, b2⟩ := ih fu (q + 1) r (by omega) (by omega)
    refine ⟨r2, (show _ = _ from a1).trans b1, fun j hj => (b2 j hj).trans ?_⟩
    rw [a2 j hj]
    constructor
    · rintro ((x | ⟨y, i2, x1, x2, z⟩) | ⟨y, y2, i2, x2, z⟩)
      · exact Or.inl x
      · exact Or.inr ⟨by omega, by omega, i2, x2, z⟩
      · exact Or.inr ⟨by omega, y2, i2, x2, z⟩
    · rintro (x | ⟨y, y2, i2, x2, z⟩)
      · exact Or.inl (Or.inl x)
      · by_cases w : j = q
        · exact Or.inl (Or.inr ⟨w, i2, by omega, x2, z⟩)
        · exact Or.inr ⟨by omega, y2, i2, x2, z⟩
theorem q_mustNot {SX SR : zSt} (hRel : zRel SX SR) (p1 : Int32) : zEq (fX11_mustNot zN p1 SX) (fX12_mustNot zN p1 SR) := by
  obtain ⟨np, m, nc, E, hE, hX, hV⟩ := zview hRel
  have m8 := hE.2.1
  unfold fX11_mustNot fX12_mustNot
  rcases e_at hE hX hV p1 with ⟨a1, a2⟩ | ⟨a1, a2, p, hr, hp, hh, e1, e2⟩
  · rw [a1, a2, zB_some, zB_some, if_pos zn00, if_pos zn00]
    exact zEq_i rfl hRel
  · obtain ⟨v, SX1, SR1, g1, g2, b, k1, k2⟩ := e_riseF hRel (Int32.ofNat hr)
    have hR1 := zRel_T hRel (zTX_of k1 (by simp) (by simp)) (zTR_of k2 (by simp) (by simp))
    have hX1 := zXV_K hX k1 (by simp) (by decide)
    have hV1 := zRV_K hV k2 (by simp) (by decide)
    have K0 : zKeep [705, 706] [] SX1 (zI (zI SX1 705 (SX1.1 801)) 706 4) := zK_mono (zK_trans (zK_I SX1 705 (SX1.1 801)) (zK_I _ 706 4)) (by simp) (by simp)
    have h5 : (zI (zI SX1 705 (SX1.1 801)) 706 4).1 705 = Int32.ofNat m := by
      rw [zI_ne _ _ (by decide), zI_self]; exact hX1.2.1
    obtain ⟨SX2, c1, c2, c3⟩ := x_each m8 zN 0 (zI (zI SX1 705 (SX1.1 801)) 706 4) (by omega) (by decide) h5 (fun j hj => absurd hj (by omega))
    have hX2 := zXV_K (zXV_K hX1 K0 (by decide) (by simp)) c2 (by simp) (by decide)
    have hG2 : zGX m (fun k => k) 4 SX2 := ⟨(c2.1 705 (by simp)).trans h5, (c2.1 706 (by simp)).trans (zI_self _ _ _), c3⟩
    obtain ⟨r, SX3, d1, d2, d3⟩ := x_last hE hp v zN 0 (nc p) 0 SX2 (by omega) (by decide) hX2 hG2
    obtain ⟨r2, f1, f2⟩ := r_last hE hV1 hp v m zN 0 0 (by omega) (Nat.lt_of_le_of_lt m8 (by decide))
    have er : r = r2 := zb_ext (fun j hj => by
      have x := d3 j hj
      have y := f2 j hj
      have z : zb r j = true ↔ zb r2 j = true := by
        rw [x, y]
        constructor
        · rintro (w | ⟨w1, i2, w2, w3, w4⟩)
          · exact Or.inl w
          · exact Or.inr ⟨by omega, w1, i2, w3, w4⟩
        · rintro (w | ⟨w0, w1, i2, w3, w4⟩)
          · exact Or.inl w
          · exact Or.inr ⟨w1, i2, by omega, w3, w4⟩
      by_cases q : zb r j = true
      · rw [q, z.mp q]
      · have q2 : ¬ zb r2 j = true := fun w => q (z.mpr w)
        rw [Bool.not_eq_true] at q q2
        rw [q, q2])
    unfold fX2_fallersAsLast fX6_takeEachAsLast
    rw [a1, a2, zB_some, zB_some, if_neg zn10, if_neg zn10, e2, e1, g1, g2, zB_some, zB_some, zL_def, zL_def]
    rw [show fX6_takeEachAsLast_b18 zN zN 0 (zI (zI SX1 705 (SX1.1 801)) 706 4) = _ from c1, zU_some, show fX2_fallersAsLast_b12 zN zN (Int32.ofNat p) v 0 0 SX2 = _ from d1, zB_some, show fX12_mustNot_b34 zN zN (Int32.ofNat p) v 0 0 SR1 = _ from f1]
    exact zEq_i er (zRel_T hR1 (zTX_t (zTX_of K0 (by simp) (by simp)) (zTX_t (zTX_of c2 (by simp) (by simp)) (zTX_of d2 (by simp) (by simp)))) (zTR_refl _))

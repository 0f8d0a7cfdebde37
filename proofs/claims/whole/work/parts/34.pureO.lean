-- bits
def zb (t : Int32) (a : Nat) : Bool := t.toBitVec.getLsbD a
theorem zb_sm : ∀ a : Fin 32, ((Int32.ofNat a.val &&& 31).toBitVec.smod 32).toNat = a.val := by decide +kernel
theorem zb_and1 (x : BitVec 32) : (x &&& 1#32 = 1#32) ↔ x.getLsbD 0 = true := by
  constructor
  · intro h
    have := congrArg (fun y => BitVec.getLsbD y 0) h
    simpa using this
  · intro h
    apply BitVec.eq_of_getLsbD_eq
    intro i hi
    rw [BitVec.getLsbD_and, BitVec.getLsbD_one]
    by_cases c : i = 0
    · subst c; simp [h]
    · simp [c]
theorem zb_iff (t : Int32) {a : Nat} (h : a < 32) : (((t >>> (Int32.ofNat a &&& 31)) &&& 1) = 1) = (zb t a = true) := by
  have e := zb_sm ⟨a, h⟩
  apply propext
  have q : (((t >>> (Int32.ofNat a &&& 31)) &&& 1) = 1) ↔ (t.toBitVec.sshiftRight' ((Int32.ofNat a &&& 31).toBitVec.smod 32) &&& 1#32 = 1#32) := Int32.toBitVec_inj.symm
  rw [q, zb_and1, BitVec.getLsbD_sshiftRight', e]
  simp [h, zb]
theorem zb_or (t : Int32) {a b : Nat} (ha : a < 32) (hb : b < 32) : zb (t ||| (1 <<< (Int32.ofNat b &&& 31))) a = (zb t a || decide (a = b)) := by
  have e := zb_sm ⟨b, hb⟩
  show (t.toBitVec ||| (1#32 <<< ((Int32.ofNat b &&& 31).toBitVec.smod 32))).getLsbD a = _
  rw [BitVec.getLsbD_or, BitVec.getLsbD_shiftLeft', e, BitVec.getLsbD_one]
  unfold zb
  congr 1
  by_cases c : a = b
  · subst c; simp [ha]
  · by_cases d : a < b
    · simp [c, d]
    · simp [c, d, ha]; omega
theorem zb_ext {s t : Int32} (h : ∀ a, a < 32 → zb s a = zb t a) : s = t := Int32.toBitVec.inj (BitVec.eq_of_getLsbD_eq h)
theorem zb_0 (a : Nat) : zb 0 a = false := by
  show (0#32).getLsbD a = false
  simp
theorem e_hasBit (t : Int32) {a : Nat} (h : a < 32) : fX11_hasBit t (Int32.ofNat a) = some (if zb t a = true then 1 else 0) := by
  unfold fX11_hasBit
  rw [zi_of (zb_iff t h)]
  split <;> rfl
-- a PLACE and an HOUR
theorem zdv {x : Int32} (h : 0 ≤ x) (k : Nat) (hk : k < 2147483648) : ∃ n : Nat, n < 2147483648 ∧ x = Int32.ofNat n ∧ x / Int32.ofNat k = Int32.ofNat (n / k) ∧ x - x / Int32.ofNat k * Int32.ofNat k = Int32.ofNat (n % k) := by
  obtain ⟨n, hn, rfl⟩ := zo_ex h
  exact ⟨n, hn, rfl, zo_div hn hk, zo_mod hn hk⟩
theorem e_at {SX SR : zSt} {np m : Nat} {nc : Nat → Nat} {E : zE} (hE : zOkE E np m nc) (hX : zXV E np m nc SX) (hR : zRV E np m nc SR) (p1 : Int32) :
    (fX11_isPlaceAndHour p1 SX = some (0, SX) ∧ fX12_isAt p1 SR = some (0, SR)) ∨
    (fX11_isPlaceAndHour p1 SX = some (1, SX) ∧ fX12_isAt p1 SR = some (1, SR) ∧ ∃ p h : Nat, p < np ∧ h < 48 ∧ p1 / 100 = Int32.ofNat p ∧ p1 - p1 / 100 * 100 = Int32.ofNat h) := by
  have n6 := hE.1
  have r3 : (0 : Int32) ≤ SR.1 3 := by rw [hR.1]; exact zo_0 (by omega)
  unfold fX11_isPlaceAndHour fX12_isAt
  by_cases c : p1 < 0
  · rw [if_pos c, if_pos c]; exact Or.inl ⟨rfl, rfl⟩
  · rw [if_neg c, if_neg c]
    obtain ⟨n, hn, e0, e1, e2⟩ := zdv (Int32.not_lt.mp c) 100 (by decide)
    have e1 : p1 / 100 = Int32.ofNat (n / 100) := e1
    have e2 : p1 - p1 / 100 * 100 = Int32.ofNat (n % 100) := e2
    rw [e2, e1, e_has8, e_isPlace _ _ r3, hX.1, hR.1, zB_some, zB_some, e_isHourX, e_isHourR]
    by_cases d : n / 100 < np
    · have d2 : 0 ≤ Int32.ofNat (n / 100) ∧ Int32.ofNat (n / 100) < Int32.ofNat np := ⟨zo_0 (by omega), by rw [zo_lt (by omega) (by omega)]; exact d⟩
      rw [if_pos d2, if_neg zn10, if_neg zn10, zU_some, zU_some]
      by_cases f : n % 100 < 48
      · have f2 : 0 ≤ Int32.ofNat (n % 100) ∧ Int32.ofNat (n % 100) ≤ 47 := ⟨zo_0 (by omega), by show Int32.ofNat (n % 100) ≤ Int32.ofNat 47; rw [zo_le (by omega) (by omega)]; omega⟩
        rw [if_pos f2, if_neg zn10, if_neg zn10]
        exact Or.inr ⟨rfl, rfl, n / 100, n % 100, d, f, rfl, rfl⟩
      · have f2 : ¬ (0 ≤ Int32.ofNat (n % 100) ∧ Int32.ofNat (n % 100) ≤ 47) := fun x => by
          have y : Int32.ofNat (n % 100) ≤ Int32.ofNat 47 := x.2
          rw [zo_le (by omega) (by omega)] at y
          omega
        rw [if_neg f2, if_pos zn00, if_pos zn00]
        exact Or.inl ⟨rfl, rfl⟩
    · have d2 : ¬ (0 ≤ Int32.ofNat (n / 100) ∧ Int32.ofNat (n / 100) < Int32.ofNat np) := fun x => by
        have y := x.2
        rw [zo_lt (by omega) (by omega)] at y
        omega
      rw [if_neg d2, if_pos zn00, if_pos zn00]
      exact Or.inl ⟨rfl, rfl⟩
-- cell
theorem zw5 {w : Int32} (h : ¬ (0 ≤ w ∧ w ≤ 2)) (h2 : 0 ≤ w ∧ w ≤ 4) : w = 3 ∨ (w = 4 ∧ ¬ w = 3) := by grind
theorem zw6 {w : Int32} (h : ¬ (0 ≤ w ∧ w ≤ 2)) (h2 : 0 ≤ w ∧ w ≤ 4) : ¬ w ≤ 2 ∧ 3 ≤ w := by grind
theorem zw7 {w : Int32} (h : 0 ≤ w ∧ w ≤ 2) : w ≤ 2 ∧ ¬ 3 ≤ w ∧ (0 ≤ w ∧ w ≤ 4) := by grind
theorem zw8 {w : Int32} (h2 : ¬ (0 ≤ w ∧ w ≤ 4)) : ¬ w = 3 ∧ ¬ w = 4 ∧ ¬ (0 ≤ w ∧ w ≤ 2) := by grind
theorem zw9 {w : Int32} (h : 0 ≤ w ∧ w ≤ 2) : w = 0 ∨ w = 1 ∨ w = 2 := by grind
theorem q_cell {SX SR : zSt} (hRel : zRel SX SR) (p1 p2 p3 p4 : Int32) : zEq (fX11_cell zN p1 p2 p3 p4 SX) (fX12_cell zN p1 p2 p3 p4 SR) := by
  obtain ⟨np, m, nc, E, hE, hX, hV⟩ := zview hRel
  have n6 := hE.1
  have r3 : (0 : Int32) ≤ SR.1 3 := by rw [hV.1]; exact zo_0 (by omega)
  have e33 := hRel.2.1.1
  obtain ⟨hc1, hc2⟩ := e_hasCell hRel.2.1 p1 p2
  unfold fX11_cell fX12_cell
  rw [e_has8, zB_some, hc1, hc2, e_isPlace _ _ r3, e33]
  by_cases hp : 0 ≤ p1 ∧ p1 < SR.1 3
  · obtain ⟨p, p1', ep⟩ := zo_exlt hp.1 (by omega : np < 2147483648) (by rw [← hV.1]; exact hp.2)
    have z7 : zin p1 7 := by rw [ep]; exact zin_o (by omega) (by decide)
    rw [if_pos hp, if_neg zn10]
    by_cases c1 : p2 = -1
    · rw [if_pos c1, if_pos c1, zB_some, if_neg zn10]
      by_cases w0 : p3 = 0
      · rw [if_pos w0, if_pos w0, if_pos z7, ep, x_cellsOf hE hX p1', zB_some, zo_t (by omega), hV.2.2.1 p p1']
        exact zEq_i rfl hRel
      · rw [if_neg w0, if_neg w0]
        by_cases w1 : p3 = 1
        · rw [if_pos w1, if_pos w1, if_pos z7, ep, x_belowOf hE hX p1', zB_some, zo_t (by omega), hV.2.2.2.2.2.2.2.2]
          exact zEq_i rfl hRel
        · rw [if_neg w1, if_neg w1]
          exact zEq_i rfl hRel
    · rw [if_neg c1, if_neg c1]
      by_cases hc : (0 ≤ p1 ∧ p1 < SR.1 3) ∧ 0 ≤ p2 ∧ p2 < SX.2.1 902 (Int32.toNatClampNeg p1)
      · have n12 := (hE.2.2.1 p p1').2.1
        have hc3 := hc.2
        rw [ep, zo_t (by omega), (hX.2.2.1 p p1').1] at hc3
        obtain ⟨i, i1, ei⟩ := zo_exlt hc3.1 (by omega) hc3.2
        rw [if_pos hc, zB_some, if_neg zn10, zB_some, if_neg zn10, e_isWithin, e_in, zU_some, zU_some]
        by_cases hw : 0 ≤ p3 ∧ p3 ≤ 2
        · obtain ⟨w1, w2, w3⟩ := zw7 hw
          have key : ∀ w : Nat, w < 3 → p3 = Int32.ofNat w → SX.2.1 901 (36 * p + 3 * i + w) = E.2.2.2.2.1 (36 * p + 3 * i + w) → zEq (zB (fX8_told p1 p2 p3 SX) fun r29 S30 => some (r29, S30)) (fX12_cell_b79 zN p1 p2 p3 p4 SR) := fun w hw3 ew ev => by
            unfold fX12_cell_b79
            rw [if_neg w2, ep, ei, ew, x_told (by omega) (by omega) hw3, zB_some, zix, if_pos (zin_o (by omega) (by decide)), zo_t (by omega), hV.2.2.2.2.2.2.2.1, ev]
            exact zEq_i rfl hRel
          rw [if_pos hw, if_neg zn10, if_pos w3, if_neg zn10, if_pos w1]
          obtain ⟨v0, v1, v2⟩ := (hX.2.2.1 p p1').2.2 i i1
          rcases zw9 hw with h | h | h
          · exact key 0 (by omega) h v0
          · exact key 1 (by omega) h v1
          · exact key 2 (by omega) h v2
        · rw [if_neg hw, if_pos zn00, e_isHourX, e_isHourR, zU_some, zU_some]
          by_cases hh : 0 ≤ p4 ∧ p4 ≤ 47
          · obtain ⟨v, SX1, SR1, g1, g2, b, k1, k2⟩ := e_riseF hRel p4
            have t1 : zTX SX SX1 := zTX_of k1 (by simp) (by simp)
            have t2 : zTR SR SR1 := zTR_of k2 (by simp) (by simp)
            rw [if_pos hh, if_neg zn10, if_neg zn10, g1, zB_some]
            by_cases h4 : 0 ≤ p3 ∧ p3 ≤ 4
            · obtain ⟨w1, w2⟩ := zw6 hw h4
              unfold fX12_cell_b79
              rw [if_pos h4, if_neg zn10, if_neg w1, if_pos w2, g2, zB_some, ep, ei]
              rcases zw5 hw h4 with h | h
              · rw [if_pos h, if_pos h, x_depth hE (zXV_T hX t1) p1' i1, r_depth hE (zRV_T hV t2) p1' (by omega)]
                exact zEq_i rfl (zRel_T hRel t1 t2)
              · rw [if_neg h.2, if_neg h.2, if_pos h.1, x_pace hE (zXV_T hX t1) p1' i1, r_pace hE (zRV_T hV t2) p1' (by omega)]
                exact zEq_i rfl (zRel_T hRel t1 t2)
            · obtain ⟨w1, w2, w3⟩ := zw8 h4
              rw [if_neg w1, if_neg w2, if_neg h4, if_pos zn00]
              exact zEq_i rfl (zRel_T hRel t1 (zTR_refl _))
          · rw [if_neg hh, if_pos zn00]
            by_cases h4 : 0 ≤ p3 ∧ p3 ≤ 4
            · obtain ⟨w1, w2⟩ := zw6 hw h4
              rw [if_pos h4, if_neg zn10, if_neg w1, if_pos zn00]
              exact zEq_i rfl hRel
            · rw [if_neg h4, if_pos zn00]
              exact zEq_i rfl hRel
      · rw [if_neg hc, zB_some, if_pos zn00, zB_some, if_pos zn00]
        exact zEq_i rfl hRel
  · have hc : ¬ ((0 ≤ p1 ∧ p1 < SR.1 3) ∧ 0 ≤ p2 ∧ p2 < SX.2.1 902 (Int32.toNatClampNeg p1)) := fun x => hp x.1
    rw [if_neg hp, if_pos zn00, zB_some, if_pos zn00, if_neg hc, zB_some, if_pos zn00]
    by_cases c1 : p2 = -1
    · rw [if_pos c1]; exact zEq_i rfl hRel
    · rw [if_neg c1]; exact zEq_i rfl hRel
-- stick
theorem e_near {E : zE} {np m : Nat} {nc : Nat → Nat} (hE : zOkE E np m nc) {p : Nat} (hp : p < np) (e pace : Int32) {SX SR : zSt} (hX : zXV E np m nc SX) (hV : zRV E np m nc SR) (v1 : Int32) (e1 : v1 / 100 = Int32.ofNat p) : ∀ (n n2 i : Nat) (bits : Int32), i ≤ 12 → 12 < i + n → 12 < i + n2 →
    ∃ r : Int32, fX8_cellsNearPace_b6 zN n (Int32.ofNat p) e pace bits (Int32.ofNat i) SX = some (r, SX) ∧ fX12_stick_b67 zN n2 v1 e pace bits (Int32.ofNat i) SR = some (r, SR) := by
  have n6 := hE.1
  have n12 := (hE.2.2.1 p hp).2.1
  intro n
  induction n with
  | zero => intro n2 i bits h1 h2; exact absurd h2 (by omega)
  | succ n ih =>
    intro n2 i bits h1 h2 h3
    obtain _ | n2 := n2
    · exact absurd h3 (by omega)
    rw [fX8_cellsNearPace_b6, fX12_stick_b67, x_cellsOf hE hX hp, zB_some, e1, if_pos (zin_o (by omega) (by decide)), zo_t (by omega), hV.2.2.1 p hp, zi_le (by omega) (by omega), zi_le (by omega) (by omega)]
    by_cases c : nc p ≤ i
    · rw [if_pos c, if_pos c]
      exact ⟨bits, rfl, rfl⟩
    · rw [if_neg c, if_neg c, x_pace hE hX hp (by omega), r_pace hE hV hp (by omega), zB_some, zB_some, e_sizeOf, zU_some, zo_s]
      by_cases d : 2 < zab (zPac E p i e - pace)
      · rw [if_pos d]
        obtain ⟨r, a1, a2⟩ := ih n2 (i + 1) bits (by omega) (by omega) (by omega)
        exact ⟨r, a1, by rw [if_pos d]; exact a2⟩
      · rw [if_neg d]
        obtain ⟨r, a1, a2⟩ := ih n2 (i + 1) _ (by omega) (by omega) (by omega)
        exact ⟨r, a1, by rw [if_neg d]; exact a2⟩
theorem q_stick {SX SR : zSt} (hRel : zRel SX SR) (p1 p2 : Int32) : zEq (fX11_stick zN p1 p2 SX) (fX12_stick zN p1 p2 SR) := by
  obtain ⟨np, m, nc, E, hE, hX, hV⟩ := zview hRel
  have n6 := hE.1
  unfold fX11_stick fX12_stick
  rcases e_at hE hX hV p1 with ⟨a1, a2⟩ | ⟨a1, a2, p, h, hp, hh, e1, e2⟩
  · rw [a1, a2, zB_some, zB_some, if_pos zn00, if_pos zn00]
    exact zEq_i rfl hRel
  · rw [a1, a2, zB_some, zB_some, if_neg zn10, if_neg zn10, e_isWithin, zU_some]
    by_cases c : p2 < 0
    · have q : ¬ (11 ≤ p2 ∧ p2 ≤ 999) := fun x => Int32.not_le.mpr c (Int32.le_trans (by decide) x.1)
      rw [if_pos c, if_neg q, if_pos zn00]
      exact zEq_i rfl hRel
    · rw [if_neg c]
      obtain ⟨n, hn, f0, f1, f2⟩ := zdv (Int32.not_lt.mp c) 10 (by decide)
      have f1 : p2 / 10 = Int32.ofNat (n / 10) := f1
      have f2 : p2 - p2 / 10 * 10 = Int32.ofNat (n % 10) := f2
      have q1 : (11 ≤ p2 ∧ p2 ≤ 999) ↔ (11 ≤ n ∧ n ≤ 999) := by
        rw [f0]
        show (Int32.ofNat 11 ≤ Int32.ofNat n ∧ Int32.ofNat n ≤ Int32.ofNat 999) ↔ _
        rw [zo_le (by omega) hn, zo_le hn (by omega)]
      have q2 : (1 ≤ Int32.ofNat (n / 10) ∧ Int32.ofNat (n / 10) ≤ 99) ↔ (1 ≤ n / 10 ∧ n / 10 ≤ 99) := by
        show (Int32.ofNat 1 ≤ Int32.ofNat (n / 10) ∧ Int32.ofNat (n / 10) ≤ Int32.ofNat 99) ↔ _
        rw [zo_le (by omega) (by omega), zo_le (by omega) (by omega)]
      have q3 : (Int32.ofNat (n % 10) = 0) ↔ n % 10 = 0 := by
        show (Int32.ofNat (n % 10) = Int32.ofNat 0) ↔ _
        rw [zo_eq (by omega) (by omega)]
      rw [f2, f1, e_in, zU_some]
      by_cases d : 1 ≤ n / 10 ∧ n / 10 ≤ 99
      · rw [if_pos (q2.mpr d), if_neg zn10]
        by_cases f : n % 10 = 0
        · rw [if_pos (q3.mpr f)]
          by_cases g : 11 ≤ n ∧ n ≤ 999
          · rw [if_pos (q1.mpr g), if_neg zn10, if_pos (q3.mpr f)]
            exact zEq_i rfl hRel
          · have q7 : ¬ (11 ≤ p2 ∧ p2 ≤ 999) := fun x => g (q1.mp x)
            rw [if_neg q7, if_pos zn00, if_pos (q3.mpr f)]
            exact zEq_i rfl hRel
        · have q4 : ¬ Int32.ofNat (n % 10) = 0 := fun x => f (q3.mp x)
          obtain ⟨v, SX1, SR1, g1, g2, b, k1, k2⟩ := e_riseF hRel (p1 - p1 / 100 * 100)
          have t1 : zTX SX SX1 := zTX_of k1 (by simp) (by simp)
          have t2 : zTR SR SR1 := zTR_of k2 (by simp) (by simp)
          obtain ⟨r, r1, r2⟩ := e_near hE hp v (10 * Int32.ofNat (n / 10) / Int32.ofNat (n % 10)) (zXV_T hX t1) (zRV_T hV t2) p1 e1 zN zN 0 0 (by decide) (by decide) (by decide)
          unfold fX11_quotient fX8_cellsNearPace
          have r1 : fX8_cellsNearPace_b6 zN zN (Int32.ofNat p) v (10 * Int32.ofNat (n / 10) / Int32.ofNat (n % 10)) 0 0 SX1 = some (r, SX1) := r1
          have r2 : fX12_stick_b67 zN zN p1 v (10 * Int32.ofNat (n / 10) / Int32.ofNat (n % 10)) 0 0 SR1 = some (r, SR1) := r2
          rw [if_pos (q1.mpr (by omega)), if_neg zn10, if_neg q4, if_neg q4, if_neg q4, if_pos q4, zU_some, g1, g2, zB_some, zB_some, if_pos q4, e1, r1, r2]
          exact zEq_i rfl (zRel_T hRel t1 t2)
      · have q5 : ¬ (1 ≤ Int32.ofNat (n / 10) ∧ Int32.ofNat (n / 10) ≤ 99) := fun x => d (q2.mp x)
        have q6 : ¬ (11 ≤ p2 ∧ p2 ≤ 999) := fun x => d (by have := q1.mp x; omega)
        rw [if_neg q5, if_pos zn00, if_neg q6, if_pos zn00]
        exact zEq_i rfl hRel

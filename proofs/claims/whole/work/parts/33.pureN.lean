-- places and people as both sides hold them: WEIGHT, HEIGHT, LEGS, PACK, values of CELLS, BELOW
abbrev zE : Type := (Nat → Int32) × (Nat → Int32) × (Nat → Int32) × (Nat → Int32) × (Nat → Int32) × (Nat → Int32)
def zOkE (E : zE) (np m : Nat) (nc : Nat → Nat) : Prop := np ≤ 6 ∧ m ≤ 8 ∧
  (∀ p, p < np → 1 ≤ nc p ∧ nc p ≤ 12 ∧ ∀ i, i < nc p → (0 ≤ E.2.2.2.2.1 (36 * p + 3 * i) ∧ E.2.2.2.2.1 (36 * p + 3 * i) ≤ 30) ∧ (0 ≤ E.2.2.2.2.1 (36 * p + 3 * i + 1) ∧ E.2.2.2.2.1 (36 * p + 3 * i + 1) ≤ 30) ∧ (0 ≤ E.2.2.2.2.1 (36 * p + 3 * i + 2) ∧ E.2.2.2.2.1 (36 * p + 3 * i + 2) ≤ 9)) ∧
  ∀ q, q < m → (30 ≤ E.1 q ∧ E.1 q ≤ 120) ∧ (10 ≤ E.2.1 q ∧ E.2.1 q ≤ 22) ∧ (0 ≤ E.2.2.1 q ∧ E.2.2.1 q ≤ 9) ∧ (0 ≤ E.2.2.2.1 q ∧ E.2.2.2.1 q ≤ 40)
def zXV (E : zE) (np m : Nat) (nc : Nat → Nat) (S : zSt) : Prop := S.1 904 = Int32.ofNat np ∧ S.1 801 = Int32.ofNat m ∧
  (∀ p, p < np → S.2.1 902 p = Int32.ofNat (nc p) ∧ S.2.1 903 p = E.2.2.2.2.2 p ∧ ∀ i, i < nc p → S.2.1 901 (36 * p + 3 * i) = E.2.2.2.2.1 (36 * p + 3 * i) ∧ S.2.1 901 (36 * p + 3 * i + 1) = E.2.2.2.2.1 (36 * p + 3 * i + 1) ∧ S.2.1 901 (36 * p + 3 * i + 2) = E.2.2.2.2.1 (36 * p + 3 * i + 2)) ∧
  ∀ q, q < m → S.2.1 800 (4 * q) = E.1 q ∧ S.2.1 800 (4 * q + 1) = E.2.1 q ∧ S.2.1 800 (4 * q + 2) = E.2.2.1 q ∧ S.2.1 800 (4 * q + 3) = E.2.2.2.1 q
def zRV (E : zE) (np m : Nat) (nc : Nat → Nat) (S : zSt) : Prop := S.1 3 = Int32.ofNat np ∧ S.1 28 = Int32.ofNat m ∧ (∀ p, p < np → S.2.1 4 p = Int32.ofNat (nc p)) ∧
  S.2.1 29 = E.1 ∧ S.2.1 30 = E.2.1 ∧ S.2.1 31 = E.2.2.1 ∧ S.2.1 32 = E.2.2.2.1 ∧ S.2.1 6 = E.2.2.2.2.1 ∧ S.2.1 5 = E.2.2.2.2.2
theorem zix (p i w : Nat) : (36 : Int32) * Int32.ofNat p + 3 * Int32.ofNat i + Int32.ofNat w = Int32.ofNat (36 * p + 3 * i + w) := by
  rw [Int32.ofNat_add, Int32.ofNat_add, Int32.ofNat_mul, Int32.ofNat_mul]
  rfl
theorem zix0 (p i : Nat) : (36 : Int32) * Int32.ofNat p + 3 * Int32.ofNat i = Int32.ofNat (36 * p + 3 * i) := by
  rw [Int32.ofNat_add, Int32.ofNat_mul, Int32.ofNat_mul]
  rfl
theorem zix1 (p i : Nat) : (36 : Int32) * Int32.ofNat p + 3 * Int32.ofNat i + 1 = Int32.ofNat (36 * p + 3 * i + 1) := zix p i 1
theorem zix2 (p i : Nat) : (36 : Int32) * Int32.ofNat p + 3 * Int32.ofNat i + 2 = Int32.ofNat (36 * p + 3 * i + 2) := zix p i 2
theorem zslot (p i w : Nat) : (Int32.ofNat p * 12 + Int32.ofNat i) * 3 + Int32.ofNat w = Int32.ofNat (36 * p + 3 * i + w) := by
  rw [Int32.ofNat_add, Int32.ofNat_add, Int32.ofNat_mul, Int32.ofNat_mul, show Int32.ofNat 36 = 36 from rfl, show Int32.ofNat 3 = 3 from rfl]
  grind
theorem zix4 (q w : Nat) : Int32.ofNat q * 4 + Int32.ofNat w = Int32.ofNat (4 * q + w) := by
  rw [Int32.ofNat_add, Int32.ofNat_mul, Int32.mul_comm]
  rfl
theorem zview {SX SR : zSt} (hR : zRel SX SR) : ∃ (np m : Nat) (nc : Nat → Nat) (E : zE), zOkE E np m nc ∧ zXV E np m nc SX ∧ zRV E np m nc SR := by
  obtain ⟨-, hP, hPe, -⟩ := hR
  obtain ⟨a1, a2, a3, a4⟩ := hP
  obtain ⟨b1, b2, b3, b4⟩ := hPe
  obtain ⟨np, np6, enp⟩ := zo_exle a2 (by decide : 6 < 2147483648) a3
  obtain ⟨m, m8, em⟩ := zo_exle b2 (by decide : 8 < 2147483648) b3
  have hp : ∀ p, p < np → _ := fun p hp => a4 (Int32.ofNat p) (zo_0 (by omega)) (by rw [enp, zo_lt (by omega) (by omega)]; exact hp)
  have hq : ∀ q, q < m → _ := fun q hq => b4 (Int32.ofNat q) (zo_0 (by omega)) (by rw [em, zo_lt (by omega) (by omega)]; exact hq)
  have hv : ∀ p, p < np → ∀ i, Int32.ofNat i < SX.2.1 902 p → i < 2147483648 → ∀ w, w ≤ 2 → 36 * p + 3 * i + w < 2147483648 → SX.2.1 901 (36 * p + 3 * i + w) = SR.2.1 6 (36 * p + 3 * i + w) ∧ rVal (Int32.ofNat w) (SX.2.1 901 (36 * p + 3 * i + w)) := fun p h i hi hi2 w hw hh => by
    have x := (hp p h).2.2.2.2.2.2 (Int32.ofNat i) (Int32.ofNat w) (zo_0 hi2) (by rw [zo_t (by omega)]; exact hi) (zo_0 (by omega)) (by show Int32.ofNat w ≤ Int32.ofNat 2; rw [zo_le (by omega) (by omega)]; exact hw)
    rwa [zix, zo_t hh] at x
  have hc : ∀ p, p < np → ∃ c : Nat, 1 ≤ c ∧ c ≤ 12 ∧ SX.2.1 902 p = Int32.ofNat c ∧ SR.2.1 4 p = Int32.ofNat c := fun p h => by
    obtain ⟨x1, x2, x3, -⟩ := hp p h
    rw [zo_t (by omega)] at x1 x2 x3
    obtain ⟨c, c1, ec⟩ := zo_exle (Int32.le_trans (by decide) x2) (by decide : 12 < 2147483648) x3
    refine ⟨c, ?_, c1, ec, by rw [← x1]; exact ec⟩
    rw [ec] at x2
    exact (Eq.mp (zo_le (a := 1) (by omega) (by omega)) x2 : 1 ≤ c)
  have hcc : ∀ p, p < np → SX.2.1 902 p = Int32.ofNat (Int32.toNatClampNeg (SR.2.1 4 p)) ∧ SR.2.1 4 p = Int32.ofNat (Int32.toNatClampNeg (SR.2.1 4 p)) ∧ 1 ≤ Int32.toNatClampNeg (SR.2.1 4 p) ∧ Int32.toNatClampNeg (SR.2.1 4 p) ≤ 12 := fun p h => by
    obtain ⟨c, c1, c2, c3, c4⟩ := hc p h
    rw [c4, c3, zo_t (by omega)]
    exact ⟨rfl, rfl, c1, c2⟩
  have hvv : ∀ p, p < np → ∀ i, i < Int32.toNatClampNeg (SR.2.1 4 p) → ∀ w, w ≤ 2 → SX.2.1 901 (36 * p + 3 * i + w) = SR.2.1 6 (36 * p + 3 * i + w) ∧ rVal (Int32.ofNat w) (SX.2.1 901 (36 * p + 3 * i + w)) := fun p h i hi w hw => by
    obtain ⟨c1, c2, c3, c4⟩ := hcc p h
    exact hv p h i (by rw [c1, zo_lt (by omega) (by omega)]; exact hi) (by omega) w hw (by omega)
  refine ⟨np, m, fun p => Int32.toNatClampNeg (SR.2.1 4 p), (SR.2.1 29, SR.2.1 30, SR.2.1 31, SR.2.1 32, SR.2.1 6, SR.2.1 5), ⟨np6, m8, fun p h => ⟨(hcc p h).2.2.1, (hcc p h).2.2.2, fun i hi => ?_⟩, fun q h => ?_⟩, ⟨enp, em, fun p h => ⟨(hcc p h).1, ?_, fun i hi => ⟨(hvv p h i hi 0 (by omega)).1, (hvv p h i hi 1 (by omega)).1, (hvv p h i hi 2 (by omega)).1⟩⟩, fun q h => ?_⟩, ⟨by rw [← a1]; exact enp, by rw [← b1]; exact em, fun p h => (hcc p h).2.1, rfl, rfl, rfl, rfl, rfl, rfl⟩⟩
  · have x0 := hvv p h i hi 0 (by omega)
    have x1 := hvv p h i hi 1 (by omega)
    have x2 := hvv p h i hi 2 (by omega)
    rw [x0.1] at x0
    rw [x1.1] at x1
    rw [x2.1] at x2
    exact ⟨⟨x0.2.1, x0.2.2.1⟩, ⟨x1.2.1, x1.2.2.1⟩, ⟨x2.2.1, x2.2.2.2 rfl⟩⟩
  · obtain ⟨y0, y1, y2, y3⟩ := hq q h
    rw [zo_t (by omega)] at y0 y1 y2 y3
    exact ⟨y0.2, y1.2, y2.2, y3.2⟩
  · have x := (hp p h).2.2.2.1
    rwa [zo_t (by omega)] at x
  · obtain ⟨y0, y1, y2, y3⟩ := hq q h
    rw [zo_t (by omega)] at y0 y1 y2 y3
    refine ⟨?_, ?_, ?_, ?_⟩
    · have e := zix4 q 0
      have y := y0.1
      rwa [show Int32.ofNat q * 4 + 0 = Int32.ofNat (4 * q + 0) from e, zo_t (by omega)] at y
    · have e := zix4 q 1
      have y := y1.1
      rwa [show Int32.ofNat q * 4 + 1 = Int32.ofNat (4 * q + 1) from e, zo_t (by omega)] at y
    · have e := zix4 q 2
      have y := y2.1
      rwa [show Int32.ofNat q * 4 + 2 = Int32.ofNat (4 * q + 2) from e, zo_t (by omega)] at y
    · have e := zix4 q 3
      have y := y3.1
      rwa [show Int32.ofNat q * 4 + 3 = Int32.ofNat (4 * q + 3) from e, zo_t (by omega)] at y
theorem zXV_K {E : zE} {np m : Nat} {nc : Nat → Nat} {a b : zSt} {I A : List Nat} (h : zXV E np m nc a) (k : zKeep I A a b) (hI : ∀ j ∈ [904, 801], j ∉ I) (hA : ∀ j ∈ [902, 903, 901, 800], j ∉ A) : zXV E np m nc b := by
  unfold zXV
  rw [k.1 904 (hI 904 (by decide)), k.1 801 (hI 801 (by decide)), k.2.1 902 (hA 902 (by decide)), k.2.1 903 (hA 903 (by decide)), k.2.1 901 (hA 901 (by decide)), k.2.1 800 (hA 800 (by decide))]
  exact h
theorem zXV_T {E : zE} {np m : Nat} {nc : Nat → Nat} {a b : zSt} (h : zXV E np m nc a) (k : zTX a b) : zXV E np m nc b := zXV_K h k (by decide) (by decide)
theorem zRV_K {E : zE} {np m : Nat} {nc : Nat → Nat} {a b : zSt} {I A : List Nat} (h : zRV E np m nc a) (k : zKeep I A a b) (hI : ∀ j ∈ [3, 28], j ∉ I) (hA : ∀ j ∈ [4, 29, 30, 31, 32, 6, 5], j ∉ A) : zRV E np m nc b := by
  unfold zRV
  rw [k.1 3 (hI 3 (by decide)), k.1 28 (hI 28 (by decide)), k.2.1 4 (hA 4 (by decide)), k.2.1 29 (hA 29 (by decide)), k.2.1 30 (hA 30 (by decide)), k.2.1 31 (hA 31 (by decide)), k.2.1 32 (hA 32 (by decide)), k.2.1 6 (hA 6 (by decide)), k.2.1 5 (hA 5 (by decide))]
  exact h
theorem zRV_T {E : zE} {np m : Nat} {nc : Nat → Nat} {a b : zSt} (h : zRV E np m nc a) (k : zTR a b) : zRV E np m nc b := zRV_K h k (by decide) (by decide)
-- what a CELL has
def zDep (E : zE) (p i : Nat) (e : Int32) : Int32 := zmx 0 (E.2.2.2.2.1 (36 * p + 3 * i) + e)
def zPac (E : zE) (p i : Nat) (e : Int32) : Int32 := E.2.2.2.2.1 (36 * p + 3 * i + 1) * (20 + e) / 20
def zBed (E : zE) (p i : Nat) : Int32 := E.2.2.2.2.1 (36 * p + 3 * i + 2)
theorem zmx0 (x : Int32) : (if 0 ≤ x then x else 0) = zmx 0 x := by
  unfold zmx
  grind
theorem x_val {j : Nat} (h : j < 216) (S : zSt) : fX8_valueAt (Int32.ofNat j) S = some (S.2.1 901 j, S) := by
  unfold fX8_valueAt
  rw [if_neg (Int32.not_lt.mpr (zo_0 (by omega))), if_neg (fun x => by have x : Int32.ofNat 216 ≤ Int32.ofNat j := x; rw [zo_le (by omega) (by omega)] at x; omega), if_pos (zin_o h (by decide)), zo_t (by omega)]
theorem x_told {p i w : Nat} (hp : p < 6) (hi : i < 12) (hw : w < 3) (S : zSt) : fX8_told (Int32.ofNat p) (Int32.ofNat i) (Int32.ofNat w) S = some (S.2.1 901 (36 * p + 3 * i + w), S) := by
  unfold fX8_told fX8_slot
  rw [zU_some, zslot, x_val (by omega), zB_some]
theorem x_cellsOf {E : zE} {np m : Nat} {nc : Nat → Nat} {S : zSt} (hE : zOkE E np m nc) (h : zXV E np m nc S) {p : Nat} (hp : p < np) : fX8_cellsOf (Int32.ofNat p) S = some (Int32.ofNat (nc p), S) := by
  have n6 := hE.1
  have q : 0 ≤ Int32.ofNat p ∧ Int32.ofNat p < Int32.ofNat np := ⟨zo_0 (by omega), by rw [zo_lt (by omega) (by omega)]; exact hp⟩
  unfold fX8_cellsOf
  rw [e_has8, h.1, if_pos q, zB_some, if_neg zn10, if_pos (zin_o (by omega) (by decide)), zo_t (by omega), (h.2.2.1 p hp).1]
theorem x_belowOf {E : zE} {np m : Nat} {nc : Nat → Nat} {S : zSt} (hE : zOkE E np m nc) (h : zXV E np m nc S) {p : Nat} (hp : p < np) : fX8_belowOf (Int32.ofNat p) S = some (E.2.2.2.2.2 p, S) := by
  have n6 := hE.1
  have q : 0 ≤ Int32.ofNat p ∧ Int32.ofNat p < Int32.ofNat np := ⟨zo_0 (by omega), by rw [zo_lt (by omega) (by omega)]; exact hp⟩
  unfold fX8_belowOf
  rw [e_has8, h.1, if_pos q, zB_some, if_neg zn10, if_pos (zin_o (by omega) (by decide)), zo_t (by omega), (h.2.2.1 p hp).2.1]
theorem x_depth {E : zE} {np m : Nat} {nc : Nat → Nat} {S : zSt} (hE : zOkE E np m nc) (h : zXV E np m nc S) {p i : Nat} (hp : p < np) (hi : i < nc p) (e : Int32) : fX8_depthAt (Int32.ofNat p) (Int32.ofNat i) e S = some (zDep E p i e, S) := by
  have n6 := hE.1
  have n12 := (hE.2.2.1 p hp).2.1
  have t : fX8_told (Int32.ofNat p) (Int32.ofNat i) 0 S = some (S.2.1 901 (36 * p + 3 * i + 0), S) := x_told (w := 0) (by omega) (by omega) (by omega) S
  unfold fX8_depthAt
  rw [t, zB_some, Nat.add_zero, ((h.2.2.1 p hp).2.2 i hi).1]
  rfl
theorem x_pace {E : zE} {np m : Nat} {nc : Nat → Nat} {S : zSt} (hE : zOkE E np m nc) (h : zXV E np m nc S) {p i : Nat} (hp : p < np) (hi : i < nc p) (e : Int32) : fX8_paceAt (Int32.ofNat p) (Int32.ofNat i) e S = some (zPac E p i e, S) := by
  have n6 := hE.1
  have n12 := (hE.2.2.1 p hp).2.1
  have t : fX8_told (Int32.ofNat p) (Int32.ofNat i) 1 S = some (S.2.1 901 (36 * p + 3 * i + 1), S) := x_told (w := 1) (by omega) (by omega) (by omega) S
  unfold fX8_paceAt
  rw [t, zB_some, ((h.2.2.1 p hp).2.2 i hi).2.1]
  rfl
theorem x_bed {E : zE} {np m : Nat} {nc : Nat → Nat} {S : zSt} (hE : zOkE E np m nc) (h : zXV E np m nc S) {p i : Nat} (hp : p < np) (hi : i < nc p) : fX8_told (Int32.ofNat p) (Int32.ofNat i) 2 S = some (zBed E p i, S) := by
  have n6 := hE.1
  have n12 := (hE.2.2.1 p hp).2.1
  have t : fX8_told (Int32.ofNat p) (Int32.ofNat i) 2 S = some (S.2.1 901 (36 * p + 3 * i + 2), S) := x_told (w := 2) (by omega) (by omega) (by omega) S
  rw [t, ((h.2.2.1 p hp).2.2 i hi).2.2]
  rfl
theorem r_depth {E : zE} {np m : Nat} {nc : Nat → Nat} {S : zSt} (hE : zOkE E np m nc) (h : zRV E np m nc S) {p i : Nat} (hp : p < np) (hi : i < 12) (e : Int32) : fX12_depthAt (Int32.ofNat p) (Int32.ofNat i) e S = some (zDep E p i e, S) := by
  have n6 := hE.1
  unfold fX12_depthAt zDep
  rw [zix0, if_pos (zin_o (by omega) (by decide)), zo_t (by omega), h.2.2.2.2.2.2.2.1, zL_def, ← zmx0]
  split <;> rfl
theorem r_pace {E : zE} {np m : Nat} {nc : Nat → Nat} {S : zSt} (hE : zOkE E np m nc) (h : zRV E np m nc S) {p i : Nat} (hp : p < np) (hi : i < 12) (e : Int32) : fX12_paceAt (Int32.ofNat p) (Int32.ofNat i) e S = some (zPac E p i e, S) := by
  have n6 := hE.1
  unfold fX12_paceAt
  rw [zix1, if_pos (zin_o (by omega) (by decide)), zo_t (by omega), h.2.2.2.2.2.2.2.1]
  rfl

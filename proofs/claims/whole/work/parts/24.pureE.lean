-- changes: what is written, undone, done again
theorem zch1 {p i w : Int32} (p0 : 0 ≤ p) (p1 : p < 6) (i0 : 0 ≤ i) (i1 : i < 12) (w0 : 0 ≤ w) (w1 : w ≤ 2) : 0 ≤ 36 * p + 3 * i + w ∧ 36 * p + 3 * i + w < 216 := by
  constructor <;> grind
theorem zch2 {p i w p2 i2 w2 : Int32} (p0 : 0 ≤ p) (p1 : p < 6) (i0 : 0 ≤ i) (i1 : i < 12) (w0 : 0 ≤ w) (w1 : w ≤ 2) (p3 : 0 ≤ p2) (p4 : p2 < 6) (i3 : 0 ≤ i2) (i4 : i2 < 12) (w3 : 0 ≤ w2) (w4 : w2 ≤ 2) (h : 36 * p2 + 3 * i2 + w2 = 36 * p + 3 * i + w) : w2 = w := by grind
theorem zch3 {a : Int32} (h : a < 216) : a < 252 := by grind
theorem zch4 {a k : Int32} (h0 : 0 ≤ a) (h1 : a < 8) (k0 : 0 ≤ k) (k1 : k ≤ 3) : 216 ≤ 216 + a * 4 + k ∧ 216 + a * 4 + k - 216 = a * 4 + k := by
  constructor <;> grind
theorem zch5 {a : Int32} (h1 : a < 216) : ¬ 216 ≤ a := by grind
theorem zch6 {i n : Int32} (h : i < n) (h2 : n ≤ 12) : i < 12 := by grind
theorem zch7 {i n : Int32} (h : i < n) (h2 : n ≤ 6) : i < 6 := by grind
theorem rPlaces_set {n m : Int32} {vals cx bx cm be ce : Nat → Int32} (h : rPlaces n m vals cx bx cm be ce) {p i w v : Int32} (p0 : 0 ≤ p) (p1 : p < n) (i0 : 0 ≤ i) (i1 : i < cx (Int32.toNatClampNeg p)) (w0 : 0 ≤ w) (w1 : w ≤ 2) (hv : rVal w v) : rPlaces n m (upd vals (Int32.toNatClampNeg (36 * p + 3 * i + w)) v) cx bx cm be (upd ce (Int32.toNatClampNeg (36 * p + 3 * i + w)) v) := by
  obtain ⟨a1, a2, a3, a4⟩ := h
  obtain ⟨c1, c2, c3, -⟩ := a4 p p0 p1
  have n0 := (zch1 p0 (zch7 p1 a3) i0 (zch6 i1 c3) w0 w1).1
  refine ⟨a1, a2, a3, fun q q0 q1 => ?_⟩
  obtain ⟨d1, d2, d3, d4, d5, d6, d7⟩ := a4 q q0 q1
  refine ⟨d1, d2, d3, d4, d5, d6, fun j x j0 j1 x0 x1 => ?_⟩
  have m0 := (zch1 q0 (zch7 q1 a3) j0 (zch6 j1 d3) x0 x1).1
  rw [zupd_at n0 m0, zupd_at n0 m0]
  by_cases c : 36 * q + 3 * j + x = 36 * p + 3 * i + w
  · rw [if_pos c, if_pos c]
    have e := zch2 p0 (zch7 p1 a3) i0 (zch6 i1 c3) w0 w1 q0 (zch7 q1 a3) j0 (zch6 j1 d3) x0 x1 c
    exact ⟨rfl, by rw [e]; exact hv⟩
  · rw [if_neg c, if_neg c]
    exact d7 j x j0 j1 x0 x1
theorem rPeople_set2 {n m : Int32} {tr we he le pa : Nat → Int32} (h : rPeople n m tr we he le pa) {a v : Int32} (a0 : 0 ≤ a) (a1 : a < m) (v0 : 0 ≤ v) (v1 : v ≤ 9) : rPeople n m (upd tr (Int32.toNatClampNeg (a * 4 + 2)) v) we he (upd le (Int32.toNatClampNeg a) v) pa := by
  obtain ⟨b1, b2, b3, b4⟩ := h
  subst b1
  have a8 := zar3 a1 b3
  have g := (zpe3 (w := 2) a0 a8 (by decide) (by decide)).1
  refine ⟨rfl, b2, b3, fun q q0 q1 => ?_⟩
  have q8 := zar3 q1 b3
  have r0 := (zpe3 (w := 0) q0 q8 (by decide) (by decide)).1
  have r1 := (zpe3 (w := 1) q0 q8 (by decide) (by decide)).1
  have r2 := (zpe3 (w := 2) q0 q8 (by decide) (by decide)).1
  have r3 := (zpe3 (w := 3) q0 q8 (by decide) (by decide)).1
  obtain ⟨d0, d1, d2, d3⟩ := b4 q q0 q1
  simp only [zupd_at g r0, zupd_at g r1, zupd_at g r2, zupd_at g r3, zupd_at a0 q0]
  by_cases c : q = a
  · subst c
    have e0 : ¬ q * 4 + 0 = q * 4 + 2 := zpe6 (q := 0) (by decide)
    have e1 : ¬ q * 4 + 1 = q * 4 + 2 := zpe6 (q := 0) (by decide)
    have e3 : ¬ q * 4 + 3 = q * 4 + 2 := zpe6 (q := 0) (by decide)
    simp only [e0, e1, e3, if_true, if_false]
    exact ⟨d0, d1, ⟨trivial, v0, v1⟩, d3⟩
  · have ne : ∀ x : Int32, 0 ≤ x → x ≤ 3 → ¬ q * 4 + x = a * 4 + 2 := fun x x0 x1 => zpe5 a0 a8 q0 q8 x0 x1 (by decide) (by decide) c
    have k0 := ne 0 (by decide) (by decide)
    have k1 := ne 1 (by decide) (by decide)
    have k2 := ne 2 (by decide) (by decide)
    have k3 := ne 3 (by decide) (by decide)
    simp only [k0, k1, k2, k3, c, if_false]
    exact ⟨d0, d1, d2, d3⟩
theorem rPeople_set3 {n m : Int32} {tr we he le pa : Nat → Int32} (h : rPeople n m tr we he le pa) {a v : Int32} (a0 : 0 ≤ a) (a1 : a < m) (v0 : 0 ≤ v) (v1 : v ≤ 40) : rPeople n m (upd tr (Int32.toNatClampNeg (a * 4 + 3)) v) we he le (upd pa (Int32.toNatClampNeg a) v) := by
  obtain ⟨b1, b2, b3, b4⟩ := h
  subst b1
  have a8 := zar3 a1 b3
  have g := (zpe3 (w := 3) a0 a8 (by decide) (by decide)).1
  refine ⟨rfl, b2, b3, fun q q0 q1 => ?_⟩
  have q8 := zar3 q1 b3
  have r0 := (zpe3 (w := 0) q0 q8 (by decide) (by decide)).1
  have r1 := (zpe3 (w := 1) q0 q8 (by decide) (by decide)).1
  have r2 := (zpe3 (w := 2) q0 q8 (by decide) (by decide)).1
  have r3 := (zpe3 (w := 3) q0 q8 (by decide) (by decide)).1
  obtain ⟨d0, d1, d2, d3⟩ := b4 q q0 q1
  simp only [zupd_at g r0, zupd_at g r1, zupd_at g r2, zupd_at g r3, zupd_at a0 q0]
  by_cases c : q = a
  · subst c
    have e0 : ¬ q * 4 + 0 = q * 4 + 3 := zpe6 (q := 0) (by decide)
    have e1 : ¬ q * 4 + 1 = q * 4 + 3 := zpe6 (q := 0) (by decide)
    have e2 : ¬ q * 4 + 2 = q * 4 + 3 := zpe6 (q := 0) (by decide)
    simp only [e0, e1, e2, if_true, if_false]
    exact ⟨d0, d1, d2, ⟨trivial, v0, v1⟩⟩
  · have ne : ∀ x : Int32, 0 ≤ x → x ≤ 3 → ¬ q * 4 + x = a * 4 + 3 := fun x x0 x1 => zpe5 a0 a8 q0 q8 x0 x1 (by decide) (by decide) c
    have k0 := ne 0 (by decide) (by decide)
    have k1 := ne 1 (by decide) (by decide)
    have k2 := ne 2 (by decide) (by decide)
    have k3 := ne 3 (by decide) (by decide)
    simp only [k0, k1, k2, k3, c, if_false]
    exact ⟨d0, d1, d2, d3⟩
/-- what a change writes, on both sides -/
theorem e_write {SX SR : zSt} (hP : rPlaces (SX.1 904) (SR.1 3) (SX.2.1 901) (SX.2.1 902) (SX.2.1 903) (SR.2.1 4) (SR.2.1 5) (SR.2.1 6)) (hPe : rPeople (SX.1 801) (SR.1 28) (SX.2.1 800) (SR.2.1 29) (SR.2.1 30) (SR.2.1 31) (SR.2.1 32)) {sl of0 at0 v : Int32} (h : rSlot (SR.1 3) (SR.1 28) (SX.2.1 902) sl of0 at0 v) :
    ∃ SX1 SR1 : zSt, fX1_write sl v SX = some SX1 ∧ fX12_lays of0 at0 v SR = some SR1 ∧ zKeep [] [800, 901] SX SX1 ∧ zKeep [] [6, 31, 32] SR SR1 ∧ rPlaces (SX.1 904) (SR.1 3) (SX1.2.1 901) (SX.2.1 902) (SX.2.1 903) (SR.2.1 4) (SR.2.1 5) (SR1.2.1 6) ∧ rPeople (SX.1 801) (SR.1 28) (SX1.2.1 800) (SR.2.1 29) (SR.2.1 30) (SR1.2.1 31) (SR1.2.1 32) := by
  rcases h with ⟨p, i, w, p0, p1, i0, i1, w0, w1, rfl, rfl, rfl, hv⟩ | ⟨a0, a1, h⟩
  · obtain ⟨b1, b2, b3, b4⟩ := id hP
    have p1' : p < SX.1 904 := by rw [b1]; exact p1
    obtain ⟨c1, c2, c3, -⟩ := b4 p p0 p1'
    obtain ⟨n0, n1⟩ := zch1 p0 (zch7 p1' b3) i0 (zch6 i1 c3) w0 w1
    have z1 : zin (36 * p + 3 * i + w) 216 := zin_of (k := 216) rfl (by decide) n0 n1
    have z2 : zin (36 * p + 3 * i + w) 252 := zin_of (k := 252) rfl (by decide) n0 (zch3 n1)
    refine ⟨zA SX 901 (Int32.toNatClampNeg (36 * p + 3 * i + w)) v, zA SR 6 (Int32.toNatClampNeg (36 * p + 3 * i + w)) v, ?_, ?_, ?_, ?_, ?_, ?_⟩
    · unfold fX1_write fX8_putValue
      rw [if_neg (zch5 n1), if_neg (zar5 n0), if_neg (zch5 n1), if_pos z1]
      rfl
    · unfold fX12_lays
      rw [if_pos rfl, if_pos z2]
      rfl
    · exact ⟨fun _ _ => rfl, fun d hd => zA_ne _ _ _ (fun e => hd (by rw [e]; decide)), rfl⟩
    · exact ⟨fun _ _ => rfl, fun d hd => zA_ne _ _ _ (fun e => hd (by rw [e]; decide)), rfl⟩
    · exact rPlaces_set hP p0 p1' i0 i1 w0 w1 hv
    · exact hPe
  · obtain ⟨b1, b2, b3, b4⟩ := id hPe
    have a8 : at0 < 8 := zar3 a1 (b1 ▸ b3)
    have z8 : zin at0 8 := zin_of (k := 8) rfl (by decide) a0 a8
    rcases h with ⟨rfl, rfl, v0, v1⟩ | ⟨rfl, rfl, v0, v1⟩
    · obtain ⟨g0, g1⟩ := zch4 (k := 2) a0 a8 (by decide) (by decide)
      have g := zpe3 (w := 2) a0 a8 (by decide) (by decide)
      refine ⟨zA SX 800 (Int32.toNatClampNeg (at0 * 4 + 2)) v, zA SR 31 (Int32.toNatClampNeg at0) v, ?_, ?_, ?_, ?_, hP, rPeople_set2 hPe a0 a1 v0 v1⟩
      · unfold fX1_write
        rw [if_pos g0, g1, e_putV _ _ _ g]
        rfl
      · unfold fX12_lays
        rw [if_neg (by decide), if_pos rfl, if_pos z8]
        rfl
      · exact ⟨fun _ _ => rfl, fun d hd => zA_ne _ _ _ (fun e => hd (by rw [e]; decide)), rfl⟩
      · exact ⟨fun _ _ => rfl, fun d hd => zA_ne _ _ _ (fun e => hd (by rw [e]; decide)), rfl⟩
    · obtain ⟨g0, g1⟩ := zch4 (k := 3) a0 a8 (by decide) (by decide)
      have g := zpe3 (w := 3) a0 a8 (by decide) (by decide)
      refine ⟨zA SX 800 (Int32.toNatClampNeg (at0 * 4 + 3)) v, zA SR 32 (Int32.toNatClampNeg at0) v, ?_, ?_, ?_, ?_, hP, rPeople_set3 hPe a0 a1 v0 v1⟩
      · unfold fX1_write
        rw [if_pos g0, g1, e_putV _ _ _ g]
        rfl
      · unfold fX12_lays
        rw [if_neg (by decide), if_neg (by decide), if_pos z8]
        rfl
      · exact ⟨fun _ _ => rfl, fun d hd => zA_ne _ _ _ (fun e => hd (by rw [e]; decide)), rfl⟩
      · exact ⟨fun _ _ => rfl, fun d hd => zA_ne _ _ _ (fun e => hd (by rw [e]; decide)), rfl⟩

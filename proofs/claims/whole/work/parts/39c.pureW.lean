-- wall
theorem zSX_form {E : zE} {np m : Nat} {nc : Nat → Nat} {n : Nat} {g : Nat → Nat} {f0 : Int32} {S : zSt} (h : zSX E np m nc n g f0 S) (f : Int32) : zSX E np m nc n g f (zI S 706 f) := by
  refine ⟨zXV_K h.1 (zK_I S 706 f) (by simp) (by simp), ?_, ?_, ?_⟩
  · rw [zI_ne _ _ (by decide)]; exact h.2.1
  · exact zI_self _ _ _
  · exact h.2.2.2
theorem e_prefer (c r : Int32) (S : zSt) : fX2_prefer c r S = some (if r ≤ S.1 304 then S else zI (zI S 303 c) 304 r) := by
  unfold fX2_prefer
  split <;> rfl
def zBI (S : zSt) (b m : Int32) : Prop := S.1 303 = b ∧ S.1 304 = m
theorem zBI_K {S S1 : zSt} {b m : Int32} {I A : List Nat} (h : zBI S b m) (k : zKeep I A S S1) (h1 : 303 ∉ I) (h2 : 304 ∉ I) : zBI S1 b m := ⟨(k.1 303 h1).trans h.1, (k.1 304 h2).trans h.2⟩
theorem zBI_set (S : zSt) (c r : Int32) : zBI (zI (zI S 303 c) 304 r) c r := ⟨by rw [zI_ne _ _ (by decide)]; exact zI_self _ _ _, zI_self _ _ _⟩
theorem zK_set (S : zSt) (c r : Int32) : zKeep [303, 304] [] S (zI (zI S 303 c) 304 r) := zK_mono (zK_trans (zK_I S 303 c) (zK_I _ 304 r)) (by simp) (by simp)
theorem e_wall1 {E : zE} {np m : Nat} {nc : Nat → Nat} {n : Nat} {g : Nat → Nat} (hH : zH E np m nc n g) {SR : zSt} (hV : zSR E np m nc n g (fun _ => 0) SR) {p : Nat} (hp : p < np) (v2 : Int32) (KX : Int32 → zSt → Option zSt) (KR : Int32 → Int32 → Int32 → Int32 → zSt → Option (Int32 × zSt)) : ∀ (c fu fu2 f : Nat) (SX : zSt) (f0 b mo : Int32), f + c = 4 → c < fu → c < fu2 → zSX E np m nc n g f0 SX → zBI SX b mo → -100 ≤ mo →
    ∃ (SX1 : zSt) (f1 b1 m1 : Int32), fX2_seekWall_b27 zN KX fu (Int32.ofNat p) (Int32.ofNat f) SX = KX (Int32.ofNat (p + 1)) SX1 ∧ fX12_wall_b42 zN KR fu2 v2 b mo (Int32.ofNat p) (Int32.ofNat f) SR = KR v2 b1 m1 (Int32.ofNat (p + 1)) SR ∧ zSX E np m nc n g f1 SX1 ∧ zBI SX1 b1 m1 ∧ -100 ≤ m1 ∧ zTX SX SX1 := by
  intro c
  induction c with
  | zero =>
    intro fu fu2 f SX f0 b mo h1 h2 h3 hX hB hm
    obtain _ | fu := fu
    · exact absurd h2 (by omega)
    obtain _ | fu2 := fu2
    · exact absurd h3 (by omega)
    have e4 : (4 ≤ Int32.ofNat f) = (4 ≤ f) := zo_le (a := 4) (by omega) (by omega)
    rw [fX2_seekWall_b27, fX12_wall_b42, zi_of e4, zi_of e4, if_pos (by omega), if_pos (by omega), zo_s]
    exact ⟨SX, f0, b, mo, rfl, rfl, hX, hB, hm, zTX_refl _⟩
  | succ c ih =>
    intro fu fu2 f SX f0 b mo h1 h2 h3 hX hB hm
    obtain _ | fu := fu
    · exact absurd h2 (by omega)
    obtain _ | fu2 := fu2
    · exact absurd h3 (by omega)
    have e4 : (4 ≤ Int32.ofNat f) = (4 ≤ f) := zo_le (a := 4) (by omega) (by omega)
    have hX0 := zSX_form hX (Int32.ofNat f)
    have K0 := zK_I SX 706 (Int32.ofNat f)
    have hB0 := zBI_K hB K0 (by simp) (by simp)
    obtain ⟨l, r, SX1, a1, a2, a3, a4, a5, a6⟩ := e_line hH hV (zn4 (by omega : f < 4)) hp hm 81 zN zN (zI SX 706 (Int32.ofNat f)) (by omega) (by decide) (by decide) hX0
    have hX1 := zSX_K hX0 a3 (by simp) (by decide)
    have hB1 := zBI_K hB0 a3 (by simp) (by simp)
    have t1 : zTX SX SX1 := zTX_t (zTX_of K0 (by simp) (by simp)) (zTX_of a3 (by simp) (by simp))
    rw [fX2_seekWall_b27, fX12_wall_b42, zi_of e4, zi_of e4, if_neg (by omega), if_neg (by omega), zL_def, hB0.2]
    unfold fX2_highestRise fX12_lineOf
    rw [show fX2_highestRise_b3 zN zN (Int32.ofNat p) mo 60 (zI SX 706 (Int32.ofNat f)) = _ from a2, show fX12_lineOf_b3 zN zN (Int32.ofNat p) (Int32.ofNat f) 60 SR = _ from a1, zB_some, zB_some, e_prefer, zU_some, hB1.2, zo_s]
    by_cases d : mo < l
    · have q : ¬ r ≤ mo := by rw [a4 d]; exact Int32.not_le.mpr d
      rw [if_pos d, if_neg q, a4 d]
      obtain ⟨SX2, f1, b1, m1, i1, i2, i3, i4, i5, i6⟩ := ih fu fu2 (f + 1) (zI (zI SX1 303 (10 * Int32.ofNat p + Int32.ofNat f)) 304 l) _ _ _ (by omega) (by omega) (by omega) (zSX_K hX1 (zK_set _ _ _) (by decide) (by simp)) (zBI_set _ _ _) a6
      exact ⟨SX2, f1, b1, m1, i1, i2, i3, i4, i5, zTX_t (zTX_t t1 (zTX_of (zK_set _ _ _) (by simp) (by simp))) i6⟩
    · have q : r ≤ mo := by rw [a5 (Int32.not_lt.mp d)]; exact hm
      rw [if_neg d, if_pos q]
      obtain ⟨SX2, f1, b1, m1, i1, i2, i3, i4, i5, i6⟩ := ih fu fu2 (f + 1) SX1 _ _ _ (by omega) (by omega) (by omega) hX1 hB1 hm
      exact ⟨SX2, f1, b1, m1, i1, i2, i3, i4, i5, zTX_t t1 i6⟩
theorem e_wall2 {E : zE} {np m : Nat} {nc : Nat → Nat} {n : Nat} {g : Nat → Nat} (hH : zH E np m nc n g) {SR : zSt} (hV : zSR E np m nc n g (fun _ => 0) SR) (v2 : Int32) : ∀ (c fu fu2 p : Nat) (SX : zSt) (f0 b mo : Int32), p + c = np → c < fu → c < fu2 → zSX E np m nc n g f0 SX → zBI SX b mo → -100 ≤ mo →
    ∃ (SX1 : zSt) (b1 m1 : Int32), fX2_seekWall_b14 zN fu (Int32.ofNat p) SX = some SX1 ∧ fX12_wall_b30 zN fu2 v2 b mo (Int32.ofNat p) SR = some (if v2 = 0 then b1 else m1, SR) ∧ zBI SX1 b1 m1 ∧ zTX SX SX1 := by
  have n6 := hH.1.1
  intro c
  induction c with
  | zero =>
    intro fu fu2 p SX f0 b mo h1 h2 h3 hX hB hm
    obtain _ | fu := fu
    · exact absurd h2 (by omega)
    obtain _ | fu2 := fu2
    · exact absurd h3 (by omega)
    rw [fX2_seekWall_b14, fX12_wall_b30, hX.1.1, hV.1.1, zi_le (by omega) (by omega), zi_le (by omega) (by omega), if_pos (by omega), if_pos (by omega)]
    refine ⟨SX, b, mo, rfl, ?_, hB, zTX_refl _⟩
    split <;> rfl
  | succ c ih =>
    intro fu fu2 p SX f0 b mo h1 h2 h3 hX hB hm
    obtain _ | fu := fu
    · exact absurd h2 (by omega)
    obtain _ | fu2 := fu2
    · exact absurd h3 (by omega)
    rw [fX2_seekWall_b14, fX12_wall_b30, hX.1.1, hV.1.1, zi_le (by omega) (by omega), zi_le (by omega) (by omega), if_neg (by omega), if_neg (by omega)]
    obtain ⟨SX1, f1, b1, m1, a1, a2, a3, a4, a5, a6⟩ := e_wall1 hH hV (by omega : p < np) v2 (fX2_seekWall_b14 zN fu) (fX12_wall_b30 zN fu2) 4 zN zN 0 SX f0 b mo (by omega) (by decide) (by decide) hX hB hm
    obtain ⟨SX2, b2, m2, i1, i2, i3, i4⟩ := ih fu fu2 (p + 1) SX1 f1 b1 m1 (by omega) (by omega) (by omega) a3 a4 a5
    exact ⟨SX2, b2, m2, (show _ = _ from a1).trans i1, (show _ = _ from a2).trans i2, i3, zTX_t a6 i4⟩
theorem q_wall {SX SR : zSt} (hRel : zRel SX SR) (p1 p2 : Int32) : zEq (fX11_wall zN p1 p2 SX) (fX12_wall zN p1 p2 SR) := by
  obtain ⟨np, m, nc, E, hE, hX, hV⟩ := zview hRel
  have n6 := hE.1
  unfold fX11_wall fX12_wall
  rcases e_take hE.2.1 hX.2.1 hV.2.1 p1 0 with ⟨SX1, SR1, b1, b2, k1, k2⟩ | ⟨SX1, SR1, n, g, b1, b2, k1, k2, ok, gx, gr⟩
  · rw [b1, b2, zB_some, zB_some, if_pos zn00, if_pos zn00]
    exact zEq_i rfl (zRel_T hRel k1 k2)
  · have hR1 := zRel_T hRel k1 k2
    rw [b1, b2, zB_some, zB_some, if_neg zn10, if_neg zn10, e_isWithin, e_in, zU_some, zU_some]
    by_cases w : 0 ≤ p2 ∧ p2 ≤ 1
    · have KS := zK_set SX1 (-2) (-100)
      obtain ⟨SX2, b3, m3, i1, i2, i3, i4⟩ := e_wall2 (SR := SR1) ⟨hE, ok⟩ (zSR_of (zRV_T hV k2) gr hR1) p2 np zN zN 0 (zI (zI SX1 303 (-2)) 304 (-100)) 0 (-2) (-100) (by omega) (Nat.lt_of_le_of_lt n6 (by decide)) (Nat.lt_of_le_of_lt n6 (by decide)) (zSX_K (f := 0) ⟨zXV_T hX k1, gx⟩ KS (by decide) (by simp)) (zBI_set _ _ _) (by decide)
      unfold fX2_seekWall
      rw [if_pos w, if_neg zn10, if_neg zn10, zL_def, zL_def]
      rw [show fX2_seekWall_b14 zN zN 0 (zI (zI SX1 303 (-2)) 304 (-100)) = _ from i1, show fX12_wall_b30 zN zN p2 (-2) (-100) 0 SR1 = _ from i2, zU_some]
      have hR2 := zRel_T hR1 (zTX_t (zTX_of KS (by simp) (by simp)) i4) (zTR_refl _)
      by_cases q : p2 = 0
      · rw [if_pos q, if_pos q]
        exact zEq_i i3.1 hR2
      · rw [if_neg q, if_neg q]
        exact zEq_i i3.2 hR2
    · rw [if_neg w, if_pos zn00, if_pos zn00]
      exact zEq_i rfl hR1
-- best
def zBJ (S : zSt) (b m : Int32) : Prop := (b = -2 ∧ zBI S (-2) (-2000000000)) ∨ (0 ≤ b ∧ -2000000000 < m ∧ zBI S b m)
theorem zBJ_K {S S1 : zSt} {b m : Int32} {I A : List Nat} (h : zBJ S b m) (k : zKeep I A S S1) (h1 : 303 ∉ I) (h2 : 304 ∉ I) : zBJ S1 b m :=
  h.imp (fun x => ⟨x.1, zBI_K x.2 k h1 h2⟩) (fun x => ⟨x.1, x.2.1, zBI_K x.2.2 k h1 h2⟩)
theorem zcand {h p f : Nat} (hh : h < 48) (hp : p < 6) (hf : f < 4) : 0 ≤ (1000 : Int32) * Int32.ofNat h + 10 * Int32.ofNat p + Int32.ofNat f := by
  have e : (1000 : Int32) * Int32.ofNat h + 10 * Int32.ofNat p + Int32.ofNat f = Int32.ofNat (1000 * h + 10 * p + f) := by
    rw [Int32.ofNat_add, Int32.ofNat_add, Int32.ofNat_mul, Int32.ofNat_mul]
    rfl
  rw [e]
  exact zo_0 (by omega)
theorem e_best1 {E : zE} {np m : Nat} {nc : Nat → Nat} {n : Nat} {g : Nat → Nat} (hH : zH E np m nc n g) {SR : zSt} (hV : zSR E np m nc n g (fun _ => 0) SR) {p h : Nat} (hp : p < np) (hh : h < 48) (e v2 v3 : Int32) (KX : Int32 → Int32 → Int32 → zSt → Option zSt) (K68 : Int32 → Int32 → Int32 → Int32 → Int32 → zSt → Option (Int32 × zSt)) (KR : Int32 → Int32 → Int32 → Int32 → Int32 → Int32 → Int32 → zSt → Option (Int32 × zSt)) : ∀ (c fu fu2 f : Nat) (SX : zSt) (f0 b mo : Int32), f + c = 4 → c < fu → c < fu2 → zSX E np m nc n g f0 SX → zBJ SX b mo →
    ∃ (SX1 : zSt) (f1 b1 m1 : Int32), fX2_seekBestAt_b16 zN KX fu (Int32.ofNat h) e (Int32.ofNat p) (Int32.ofNat f) SX = KX (Int32.ofNat h) e (Int32.ofNat (p + 1)) SX1 ∧ fX12_best_b115 zN K68 KR fu2 v2 v3 b mo (Int32.ofNat h) e (Int32.ofNat p) (Int32.ofNat f) SR = KR v2 v3 b1 m1 (Int32.ofNat h) e (Int32.ofNat (p + 1)) SR ∧ zSX E np m nc n g f1 SX1 ∧ zBJ SX1 b1 m1 ∧ zTX SX SX1 := by
  have n6 := hH.1.1
  intro c
  induction c with
  | zero =>
    intro fu fu2 f SX f0 b mo h1 h2 h3 hX hB
    obtain _ | fu := fu
    · exact absurd h2 (by omega)
    obtain _ | fu2 := fu2
    · exact absurd h3 (by omega)
    have e4 : (4 ≤ Int32.ofNat f) = (4 ≤ f) := zo_le (a := 4) (by omega) (by omega)
    rw [fX2_seekBestAt_b16, fX12_best_b115, zi_of e4, zi_of e4, if_pos (by omega), if_pos (by omega), zo_s]
    exact ⟨SX, f0, b, mo, rfl, rfl, hX, hB, zTX_refl _⟩
  | succ c ih =>
    intro fu fu2 f SX f0 b mo h1 h2 h3 hX hB
    obtain _ | fu := fu
    · exact absurd h2 (by omega)
    obtain _ | fu2 := fu2
    · exact absurd h3 (by omega)
    have e4 : (4 ≤ Int32.ofNat f) = (4 ≤ f) := zo_le (a := 4) (by omega) (by omega)
    have hX0 := zSX_form hX (Int32.ofNat f)
    have K0 := zK_I SX 706 (Int32.ofNat f)
    have hB0 := zBJ_K hB K0 (by simp) (by simp)
    obtain ⟨l, b1, b2⟩ := r_least hH hV (zn4 (by omega : f < 4)) hp e
    have lgt := zLst_gt (U := fun _ => 0) hH hp b2
    obtain ⟨SX1, r, a1, a2, a3⟩ := x_least hH hp e ((zI SX 706 (Int32.ofNat f)).1 304) hX0
    obtain ⟨a4, a5⟩ := a3 l b2
    have hX1 := zSX_K hX0 a2 (by simp) (by decide)
    have hB1 := zBJ_K hB0 a2 (by simp) (by simp)
    have e304 : SX1.1 304 = (zI SX 706 (Int32.ofNat f)).1 304 := a2.1 304 (by simp)
    have t1 : zTX SX SX1 := zTX_t (zTX_of K0 (by simp) (by simp)) (zTX_of a2 (by simp) (by simp))
    have hc := zcand hh (by omega : p < 6) (by omega : f < 4)
    rw [fX2_seekBestAt_b16, fX12_best_b115, zi_of e4, zi_of e4, if_neg (by omega), if_neg (by omega), zL_def, a1, b1, zB_some, zB_some, e_prefer, zU_some, e304, zo_s]
    have take : (zI SX 706 (Int32.ofNat f)).1 304 < l → ∃ (SX1_1 : zSt) (f1 b1 m1 : Int32), fX2_seekBestAt_b16 zN KX fu (Int32.ofNat h) e (Int32.ofNat p) (Int32.ofNat (f + 1)) (if r ≤ (zI SX 706 (Int32.ofNat f)).1 304 then SX1 else zI (zI SX1 303 (1000 * Int32.ofNat h + 10 * Int32.ofNat p + Int32.ofNat f)) 304 r) = KX (Int32.ofNat h) e (Int32.ofNat (p + 1)) SX1_1 ∧ fX12_best_b115 zN K68 KR fu2 v2 v3 (1000 * Int32.ofNat h + 10 * Int32.ofNat p + Int32.ofNat f) l (Int32.ofNat h) e (Int32.ofNat p) (Int32.ofNat (f + 1)) SR = KR v2 v3 b1 m1 (Int32.ofNat h) e (Int32.ofNat (p + 1)) SR ∧ zSX E np m nc n g f1 SX1_1 ∧ zBJ SX1_1 b1 m1 ∧ zTX SX SX1_1 := fun d => by
      have q : ¬ r ≤ (zI SX 706 (Int32.ofNat f)).1 304 := by rw [a4 d]; exact Int32.not_le.mpr d
      rw [if_neg q, a4 d]
      obtain ⟨SX2, f1, b1, m1, i1, i2, i3, i4, i5⟩ := ih fu fu2 (f + 1) (zI (zI SX1 303 (1000 * Int32.ofNat h + 10 * Int32.ofNat p + Int32.ofNat f)) 304 l) _ _ _ (by omega) (by omega) (by omega) (zSX_K hX1 (zK_set _ _ _) (by decide) (by simp)) (Or.inr ⟨hc, lgt, zBI_set _ _ _⟩)
      exact ⟨SX2, f1, b1, m1, i1, i2, i3, i4, zTX_t (zTX_t t1 (zTX_of (zK_set _ _ _) (by simp) (by simp))) i5⟩
    unfold fX12_best_b148
    rw [zo_s]
    rcases hB0 with ⟨c1, c2⟩ | ⟨c1, c2, c3⟩
    · subst c1
      rw [if_pos (show (-2 : Int32) < 0 by decide)]
      exact take (by rw [c2.2]; exact lgt)
    · rw [if_neg (Int32.not_lt.mpr c1)]
      by_cases d : mo < l
      · rw [if_pos d]
        exact take (by rw [c3.2]; exact d)
      · have q : r ≤ (zI SX 706 (Int32.ofNat f)).1 304 := a5 (by rw [c3.2]; exact Int32.not_lt.mp d)
        rw [if_neg d, if_pos q]
        obtain ⟨SX2, f1, b1, m1, i1, i2, i3, i4, i5⟩ := ih fu fu2 (f + 1) SX1 _ _ _ (by omega) (by omega) (by omega) hX1 hB1
        exact ⟨SX2, f1, b1, m1, i1, i2, i3, i4, zTX_t t1 i5⟩
theorem e_best2 {E : zE} {np m : Nat} {nc : Nat → Nat} {n : Nat} {g : Nat → Nat} (hH : zH E np m nc n g) {SR : zSt} (hV : zSR E np m nc n g (fun _ => 0) SR) {h : Nat} (hh : h < 48) (e v2 v3 : Int32) (K68 : Int32 → Int32 → Int32 → Int32 → Int32 → zSt → Option (Int32 × zSt)) : ∀ (c fu fu2 p : Nat) (SX : zSt) (f0 b mo : Int32), p + c = np → c < fu → c < fu2 → zSX E np m nc n g f0 SX → zBJ SX b mo →
    ∃ (SX1 : zSt) (f1 b1 m1 : Int32), fX2_seekBestAt_b2 zN fu (Int32.ofNat h) e (Int32.ofNat p) SX = some SX1 ∧ fX12_best_b103 zN K68 fu2 v2 v3 b mo (Int32.ofNat h) e (Int32.ofNat p) SR = K68 v2 v3 b1 m1 (Int32.ofNat (h + 1)) SR ∧ zSX E np m nc n g f1 SX1 ∧ zBJ SX1 b1 m1 ∧ zTX SX SX1 := by
  have n6 := hH.1.1
  intro c
  induction c with
  | zero =>
    intro fu fu2 p SX f0 b mo h1 h2 h3 hX hB
    obtain _ | fu := fu
    · exact absurd h2 (by omega)
    obtain _ | fu2 := fu2
    · exact absurd h3 (by omega)
    rw [fX2_seekBestAt_b2, fX12_best_b103, hX.1.1, hV.1.1, zi_le (by omega) (by omega), zi_le (by omega) (by omega), if_pos (by omega), if_pos (by omega), zo_s]
    exact ⟨SX, f0, b, mo, rfl, rfl, hX, hB, zTX_refl _⟩
  | succ c ih =>
    intro fu fu2 p SX f0 b mo h1 h2 h3 hX hB
    obtain _ | fu := fu
    · exact absurd h2 (by omega)
    obtain _ | fu2 := fu2
    · exact absurd h3 (by omega)
    rw [fX2_seekBestAt_b2, fX12_best_b103, hX.1.1, hV.1.1, zi_le (by omega) (by omega), zi_le (by omega) (by omega), if_neg (by omega), if_neg (by omega)]
    obtain ⟨SX1, f1, b1, m1, a1, a2, a3, a4, a5⟩ := e_best1 hH hV (by omega : p < np) hh e v2 v3 (fX2_seekBestAt_b2 zN fu) K68 (fX12_best_b103 zN K68 fu2) 4 zN zN 0 SX f0 b mo (by omega) (by decide) (by decide) hX hB
    obtain ⟨SX2, f2, b2, m2, i1, i2, i3, i4, i5⟩ := ih fu fu2 (p + 1) SX1 f1 b1 m1 (by omega) (by omega) (by omega) a3 a4
    exact ⟨SX2, f2, b2, m2, (show _ = _ from a1).trans i1, (show _ = _ from a2).trans i2, i3, i4, zTX_t a5 i5⟩
theorem e_best3 {E : zE} {np m : Nat} {nc : Nat → Nat} {n : Nat} {g : Nat → Nat} (hH : zH E np m nc n g) {to : Nat} (hto : to < 48) {v2 v3 : Int32} (e2 : v2 - v2 / 100 * 100 = Int32.ofNat to) : ∀ (c fu fu2 h : Nat) (SX SR : zSt) (f0 b mo : Int32), h + c = to + 1 → c < fu → c < fu2 → zRel SX SR → zSX E np m nc n g f0 SX → zSR E np m nc n g (fun _ => 0) SR → zBJ SX b mo →
    ∃ (SX1 SR1 : zSt) (b1 m1 : Int32), fX2_seekBest_b14 zN fu (Int32.ofNat to) (Int32.ofNat h) SX = some (if b1 = -2 then 0 else 1, SX1) ∧ fX12_best_b68 zN fu2 v2 v3 b mo (Int32.ofNat h) SR = some (if b1 < 0 then b1 else if v3 = 0 then b1 else m1, SR1) ∧ zBJ SX1 b1 m1 ∧ zRel SX1 SR1 := by
  have n6 := hH.1.1
  intro c
  induction c with
  | zero =>
    intro fu fu2 h SX SR f0 b mo h1 h2 h3 hR hX hV hB
    obtain _ | fu := fu
    · exact absurd h2 (by omega)
    obtain _ | fu2 := fu2
    · exact absurd h3 (by omega)
    have el : Int32.ofNat to < Int32.ofNat h := by rw [zo_lt (by omega) (by omega)]; omega
    rw [fX2_seekBest_b14, fX12_best_b68, e2, if_pos el, if_pos el]
    unfold fX12_best_b196
    refine ⟨SX, SR, b, mo, ?_, ?_, hB, hR⟩
    · have : SX.1 303 = b := by
        rcases hB with ⟨c1, c2⟩ | ⟨c1, c2, c3⟩
        · rw [c1]; exact c2.1
        · exact c3.1
      rw [this]
      split <;> rfl
    · split
      · rfl
      · split <;> rfl
  | succ c ih =>
    intro fu fu2 h SX SR f0 b mo h1 h2 h3 hR hX hV hB
    obtain _ | fu := fu
    · exact absurd h2 (by omega)
    obtain _ | fu2 := fu2
    · exact absurd h3 (by omega)
    have el : ¬ Int32.ofNat to < Int32.ofNat h := by rw [zo_lt (by omega) (by omega)]; omega
    rw [fX2_seekBest_b14, fX12_best_b68, e2, if_neg el, if_neg el, e_darkX, e_darkR, zU_some, zU_some, zo_s]
    by_cases d : 5 ≤ Int32.ofNat h - Int32.ofNat h / 24 * 24 ∧ Int32.ofNat h - Int32.ofNat h / 24 * 24 ≤ 19
    · obtain ⟨v, SX2, SR2, g1, g2, -, hR2, hX2, hV2, k1, -⟩ := e_riseG hR hX hV (Int32.ofNat h)
      obtain ⟨SX3, f1, b1, m1, a1, a2, a3, a4, a5⟩ := e_best2 hH hV2 (by omega : h < 48) v v2 v3 (fX12_best_b68 zN fu2) np zN zN 0 SX2 f0 b mo (by omega) (Nat.lt_of_le_of_lt n6 (by decide)) (Nat.lt_of_le_of_lt n6 (by decide)) hX2 (zBJ_K hB k1 (by simp) (by simp))
      unfold fX2_seekBestAt
      rw [if_pos d, if_pos zn00, if_pos zn00, g1, g2, zB_some, zB_some]
      rw [show fX2_seekBestAt_b2 zN zN (Int32.ofNat h) v 0 SX2 = _ from a1, show fX12_best_b103 zN (fX12_best_b68 zN fu2) zN v2 v3 b mo (Int32.ofNat h) v 0 SR2 = _ from a2, zU_some]
      exact ih fu fu2 (h + 1) SX3 SR2 f1 b1 m1 (by omega) (by omega) (by omega) (zRel_T hR2 a5 (zTR_refl _)) a3 hV2 a4
    · rw [if_neg d, if_neg zn10, if_neg zn10]
      exact ih fu fu2 (h + 1) SX SR f0 b mo (by omega) (by omega) (by omega) hR hX hV hB
theorem q_best {SX SR : zSt} (hRel : zRel SX SR) (p1 p2 p3 : Int32) : zEq (fX11_best zN p1 p2 p3 SX) (fX12_best zN p1 p2 p3 SR) := by
  obtain ⟨np, m, nc, E, hE, hX, hV⟩ := zview hRel
  have n6 := hE.1
  unfold fX11_best fX12_best
  rcases e_take hE.2.1 hX.2.1 hV.2.1 p1 0 with ⟨SX1, SR1, b1, b2, k1, k2⟩ | ⟨SX1, SR1, n, g, b1, b2, k1, k2, ok, gx, gr⟩
  · rw [b1, b2, zB_some, zB_some, if_pos zn00, if_pos zn00]
    exact zEq_i rfl (zRel_T hRel k1 k2)
  · have hR1 := zRel_T hRel k1 k2
    rw [b1, b2, zB_some, zB_some, if_neg zn10, if_neg zn10]
    by_cases c : p2 < 0
    · rw [if_pos c, if_pos c]
      exact zEq_i rfl hR1
    · obtain ⟨x, hx, e0, e1, e2⟩ := zdv (Int32.not_lt.mp c) 100 (by decide)
      have e1 : p2 / 100 = Int32.ofNat (x / 100) := e1
      have e2 : p2 - p2 / 100 * 100 = Int32.ofNat (x % 100) := e2
      rw [if_neg c, if_neg c, e2, e1, e_isWithin, e_isHourX, e_isHourX, e_isHourR, e_isHourR, e_in, zU_some, zU_some]
      have eh : ∀ y, y < 2147483648 → ((0 ≤ Int32.ofNat y ∧ Int32.ofNat y ≤ 47) ↔ y < 48) := fun y hy => by
        show (0 ≤ Int32.ofNat y ∧ Int32.ofNat y ≤ Int32.ofNat 47) ↔ _
        rw [zo_le hy (by omega)]
        exact ⟨fun z => by omega, fun z => ⟨zo_0 hy, by omega⟩⟩
      simp only [zU_some, z10]
      by_cases w : 0 ≤ p3 ∧ p3 ≤ 1
      · by_cases d : x / 100 < 48
        · have d1 := (eh (x / 100) (by omega)).mpr d
          by_cases q : x % 100 < 48
          · have q1 := (eh (x % 100) (by omega)).mpr q
            rw [if_neg (not_not_intro w), if_neg (not_not_intro d1), if_neg (not_not_intro d1), if_neg (not_not_intro q1), if_neg (not_not_intro q1), if_neg (not_not_intro w)]
            by_cases y : x / 100 ≤ x % 100
            · have y1 : Int32.ofNat (x / 100) ≤ Int32.ofNat (x % 100) := by rw [zo_le (by omega) (by omega)]; exact y
              have KS := zK_set SX1 (-2) (-2000000000)
              obtain ⟨SX2, SR2, b3, m3, i1, i2, i3, hR2⟩ := e_best3 (v2 := p2) (v3 := p3) ⟨hE, ok⟩ q e2 (x % 100 + 1 - x / 100) zN zN (x / 100) (zI (zI SX1 303 (-2)) 304 (-2000000000)) SR1 0 (-2) 0 (by omega) (Nat.lt_of_le_of_lt (by omega : _ ≤ 48) (by decide)) (Nat.lt_of_le_of_lt (by omega : _ ≤ 48) (by decide)) (zRel_X hR1 KS (by simp) (by simp)) (zSX_K (f := 0) ⟨zXV_T hX k1, gx⟩ KS (by decide) (by simp)) (zSR_of (zRV_T hV k2) gr hR1) (Or.inl ⟨rfl, zBI_set _ _ _⟩)
              unfold fX2_seekBest
              rw [if_pos y1, if_neg (Int32.not_lt.mpr y1), zL_def, zL_def, i1, i2, zB_some]
              rcases i3 with ⟨c1, c2⟩ | ⟨c1, c2, c3⟩
              · subst c1
                rw [if_pos (show (-2 : Int32) = -2 from rfl), if_pos zn00, if_pos (show (-2 : Int32) < 0 by decide)]
                exact zEq_i rfl hR2
              · have c4 : ¬ b3 = -2 := fun z => by rw [z] at c1; exact absurd c1 (by decide)
                rw [if_neg c4, if_neg zn10, if_neg (Int32.not_lt.mpr c1)]
                by_cases z : p3 = 0
                · rw [if_pos z, if_pos z]
                  exact zEq_i c3.1 hR2
                · rw [if_neg z, if_neg z]
                  exact zEq_i c3.2 hR2
            · have y1 : ¬ Int32.ofNat (x / 100) ≤ Int32.ofNat (x % 100) := by rw [zo_le (by omega) (by omega)]; exact y
              rw [if_neg y1, if_pos (Int32.not_le.mp y1)]
              exact zEq_i rfl hR1
          · have q1 : ¬ (0 ≤ Int32.ofNat (x % 100) ∧ Int32.ofNat (x % 100) ≤ 47) := fun z => q ((eh _ (by omega)).mp z)
            simp only [w, d1, q1, and_self, not_true_eq_false, not_false_eq_true, if_true, if_false]
            exact zEq_i rfl hR1
        · have d1 : ¬ (0 ≤ Int32.ofNat (x / 100) ∧ Int32.ofNat (x / 100) ≤ 47) := fun z => d ((eh _ (by omega)).mp z)
          simp only [w, d1, and_self, not_true_eq_false, not_false_eq_true, if_true, if_false]
          exact zEq_i rfl hR1
      · simp only [w, not_false_eq_true, if_true, ite_self]
        exact zEq_i rfl hR1

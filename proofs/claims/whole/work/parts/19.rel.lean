/-! THE TWO SIDES AS FUNCTIONS: what it is that they agree -/
def zN : Nat := 1000000
theorem zU_some {α γ : Type} (a : α) (k : α → Option γ) : zU (some a) k = k a := rfl
theorem zB_some {α β γ : Type} (a : α) (b : β) (k : α → β → Option γ) : zB (some (a, b)) k = k a b := rfl
theorem zL_def {α γ : Type} (a : α) (k : α → γ) : zL a k = k a := rfl
theorem z10 (c : Prop) [Decidable c] : ((if c then (1 : Int32) else 0) = 0) = ¬ c := by
  by_cases h : c <;> simp [h]
theorem zbit10 (c : Prop) [Decidable c] : zbit (if c then (1 : Int32) else 0) = True := by
  by_cases h : c <;> simp [h, zbit]
theorem zin_of {i k : Int32} {n : Nat} (hk : k = Int32.ofNat n) (hn : n < 2147483648) (h0 : 0 ≤ i) (h1 : i < k) : zin i n := by
  subst hk
  have e0 : (0 : Int32).toInt = 0 := by decide
  have e1 : (Int32.ofNat n).toInt = (n : Int) := Int32.toInt_ofNat_of_lt hn
  rw [Int32.le_iff_toInt_le, e0] at h0
  rw [Int32.lt_iff_toInt_lt, e1] at h1
  exact vp_in_iff.mpr ⟨h0, h1⟩
theorem ztn {i : Int32} (h : 0 ≤ i) : ((Int32.toNatClampNeg i : Nat) : Int) = i.toInt := by
  have e0 : (0 : Int32).toInt = 0 := by decide
  rw [Int32.le_iff_toInt_le, e0] at h
  show ((i.toInt.toNat : Nat) : Int) = i.toInt
  omega
theorem ztn_inj {i j : Int32} (hi : 0 ≤ i) (hj : 0 ≤ j) : (Int32.toNatClampNeg i = Int32.toNatClampNeg j) ↔ i = j := by
  constructor
  · intro h
    have h1 := ztn hi
    have h2 := ztn hj
    exact Int32.toInt.inj (by omega)
  · rintro rfl
    rfl
/-- a row at an int -/
theorem zupd_at {f : Nat → Int32} {i j v : Int32} (hi : 0 ≤ i) (hj : 0 ≤ j) : upd f (Int32.toNatClampNeg i) v (Int32.toNatClampNeg j) = if j = i then v else f (Int32.toNatClampNeg j) := by
  unfold upd
  by_cases h : j = i
  · subst h; simp
  · rw [if_neg h, if_neg (fun e => h ((ztn_inj hj hi).mp e))]
/-- the rows and numbers that the two sides agree in -/
def zbyte (f g : Int32) : Prop := (f = g ∧ 0 ≤ f ∧ f ≤ 127) ∨ (128 ≤ f ∧ f ≤ 255 ∧ g < 0)
def rTape (n m at0 : Int32) (f g : Nat → Int32) : Prop := n = m ∧ 0 ≤ n ∧ n ≤ 120 ∧ at0 = 0 ∧ ∀ i : Int32, 0 ≤ i → i < n → zbyte (f (Int32.toNatClampNeg i)) (g (Int32.toNatClampNeg i))
def rVal (w v : Int32) : Prop := 0 ≤ v ∧ v ≤ 30 ∧ (w = 2 → v ≤ 9)
def rPlaces (n m : Int32) (vals cx bx cm be ce : Nat → Int32) : Prop := n = m ∧ 0 ≤ n ∧ n ≤ 6 ∧ ∀ p : Int32, 0 ≤ p → p < n →
  cx (Int32.toNatClampNeg p) = cm (Int32.toNatClampNeg p) ∧ 1 ≤ cx (Int32.toNatClampNeg p) ∧ cx (Int32.toNatClampNeg p) ≤ 12 ∧ bx (Int32.toNatClampNeg p) = be (Int32.toNatClampNeg p) ∧ 0 ≤ bx (Int32.toNatClampNeg p) ∧ bx (Int32.toNatClampNeg p) ≤ 9 ∧
  ∀ i w : Int32, 0 ≤ i → i < cx (Int32.toNatClampNeg p) → 0 ≤ w → w ≤ 2 → vals (Int32.toNatClampNeg (36 * p + 3 * i + w)) = ce (Int32.toNatClampNeg (36 * p + 3 * i + w)) ∧ rVal w (vals (Int32.toNatClampNeg (36 * p + 3 * i + w)))
def rPeople (n m : Int32) (tr we he le pa : Nat → Int32) : Prop := n = m ∧ 0 ≤ n ∧ n ≤ 8 ∧ ∀ p : Int32, 0 ≤ p → p < n →
  (tr (Int32.toNatClampNeg (p * 4 + 0)) = we (Int32.toNatClampNeg p) ∧ 30 ≤ we (Int32.toNatClampNeg p) ∧ we (Int32.toNatClampNeg p) ≤ 120) ∧ (tr (Int32.toNatClampNeg (p * 4 + 1)) = he (Int32.toNatClampNeg p) ∧ 10 ≤ he (Int32.toNatClampNeg p) ∧ he (Int32.toNatClampNeg p) ≤ 22) ∧
  (tr (Int32.toNatClampNeg (p * 4 + 2)) = le (Int32.toNatClampNeg p) ∧ 0 ≤ le (Int32.toNatClampNeg p) ∧ le (Int32.toNatClampNeg p) ≤ 9) ∧ (tr (Int32.toNatClampNeg (p * 4 + 3)) = pa (Int32.toNatClampNeg p) ∧ 0 ≤ pa (Int32.toNatClampNeg p) ∧ pa (Int32.toNatClampNeg p) ≤ 40)
def rSky (a a2 b b2 c c2 n : Int32) : Prop := a = a2 ∧ b = b2 ∧ c = c2 ∧ -1 ≤ c ∧ c < n
def rNotch (n m : Int32) (hx rx hr rr : Nat → Int32) : Prop := n = m ∧ 0 ≤ n ∧ n ≤ 20 ∧ ∀ i : Int32, 0 ≤ i → i < n → hx (Int32.toNatClampNeg i) = hr (Int32.toNatClampNeg i) ∧ rx (Int32.toNatClampNeg i) = rr (Int32.toNatClampNeg i) ∧ 0 ≤ hx (Int32.toNatClampNeg i) ∧ hx (Int32.toNatClampNeg i) ≤ 47 ∧ -20 ≤ rx (Int32.toNatClampNeg i) ∧ rx (Int32.toNatClampNeg i) ≤ 60
def rBodies (n m : Int32) (kx kr : Nat → Int32) : Prop := n = m ∧ 0 ≤ n ∧ n ≤ 50 ∧ ∀ i : Int32, 0 ≤ i → i < n → kx (Int32.toNatClampNeg i) = kr (Int32.toNatClampNeg i) ∧ 0 ≤ kx (Int32.toNatClampNeg i) ∧ kx (Int32.toNatClampNeg i) ≤ 7
def rTrace (n m : Int32) (tx tr : Nat → Int32) : Prop := n = m ∧ 0 ≤ n ∧ n ≤ 100 ∧ ∀ i : Int32, 0 ≤ i → i < n → i < 24 → tx (Int32.toNatClampNeg i) = tr (Int32.toNatClampNeg i)
def rShelf (nb : Int32) (so le bo ho si : Nat → Int32) (ro : Nat → Nat → Int64) (el : Nat → Int64) : Prop := ∀ s : Int32, 0 ≤ s → s < 6 →
  (so (Int32.toNatClampNeg s) = -2 ∧ ho (Int32.toNatClampNeg s) = -1) ∨ (so (Int32.toNatClampNeg s) = -1 ∧ bo (Int32.toNatClampNeg s) = ho (Int32.toNatClampNeg s) ∧ 0 ≤ ho (Int32.toNatClampNeg s) ∧ ho (Int32.toNatClampNeg s) < nb) ∨
  (0 ≤ so (Int32.toNatClampNeg s) ∧ so (Int32.toNatClampNeg s) ≤ 4 ∧ ho (Int32.toNatClampNeg s) = -2 - so (Int32.toNatClampNeg s) ∧ le (Int32.toNatClampNeg s) = si (Int32.toNatClampNeg s) ∧ 0 ≤ si (Int32.toNatClampNeg s) ∧ si (Int32.toNatClampNeg s) ≤ 60 ∧
    ∀ i : Int32, 0 ≤ i → i < 60 → ro (10030 + Int32.toNatClampNeg s) (Int32.toNatClampNeg i) = el (Int32.toNatClampNeg (60 * s + i)))
def rSlot (np n : Int32) (cx : Nat → Int32) (sl of0 at0 v : Int32) : Prop :=
  (∃ p i w : Int32, 0 ≤ p ∧ p < np ∧ 0 ≤ i ∧ i < cx (Int32.toNatClampNeg p) ∧ 0 ≤ w ∧ w ≤ 2 ∧ of0 = 0 ∧ at0 = 36 * p + 3 * i + w ∧ sl = at0 ∧ rVal w v) ∨
  (0 ≤ at0 ∧ at0 < n ∧ ((of0 = 1 ∧ sl = 216 + at0 * 4 + 2 ∧ 0 ≤ v ∧ v ≤ 9) ∨ (of0 = 2 ∧ sl = 216 + at0 * 4 + 3 ∧ 0 ≤ v ∧ v ≤ 40)))
def rEnt (np n : Int32) (cx : Nat → Int32) (sl of0 at0 b a : Int32) : Prop := rSlot np n cx sl of0 at0 b ∧ rSlot np n cx sl of0 at0 a
def rChange (d d2 u u2 np n : Int32) (cx sl bx ax of0 at0 br ar : Nat → Int32) : Prop := d = d2 ∧ u = u2 ∧ 0 ≤ d ∧ 0 ≤ u ∧ d + u ≤ 40 ∧ d ≤ 40 ∧ u ≤ 40 ∧ ∀ i : Int32, 0 ≤ i → i < d + u →
  bx (Int32.toNatClampNeg i) = br (Int32.toNatClampNeg i) ∧ ax (Int32.toNatClampNeg i) = ar (Int32.toNatClampNeg i) ∧ rEnt np n cx (sl (Int32.toNatClampNeg i)) (of0 (Int32.toNatClampNeg i)) (at0 (Int32.toNatClampNeg i)) (bx (Int32.toNatClampNeg i)) (ax (Int32.toNatClampNeg i))
def rGust (g : Nat → Int32) : Prop := ∀ i : Int32, 0 ≤ i → i < 12 → g (Int32.toNatClampNeg i) = 0
/-- b is a, but for the ints I and the rows A -/
def zKeep (I A : List Nat) (a b : zSt) : Prop := (∀ k, k ∉ I → b.1 k = a.1 k) ∧ (∀ d, d ∉ A → b.2.1 d = a.2.1 d) ∧ b.2.2 = a.2.2
/-- a law's steps as both sides hold them: (what, value), and the class's code of one -/
abbrev zOp : Type := Int32 × Int32
def zXc (o : zOp) : Int32 := if o.1 = 1 then o.2 else if o.1 = 2 then (if o.2 = 0 then -104 else if o.2 = 1 then -99 else if o.2 = 2 then -114 else -105) else if o.1 = 3 then -33 else if o.1 = 4 then -126 else -o.1
def zSgn (s : Int32) : Prop := s = 37 ∨ s = 38 ∨ s = 42 ∨ s = 43 ∨ s = 45 ∨ s = 47 ∨ s = 60 ∨ s = 61 ∨ s = 62 ∨ s = 124
/-- the steps lead from d values that wait to e -/
def zDs : List zOp → Nat → Nat → Prop
  | [], d, e => d = e
  | o :: r, d, e => (((o.1 = 1 ∧ 0 ≤ o.2) ∨ (o.1 = 2 ∧ (o.2 = 0 ∨ o.2 = 1 ∨ o.2 = 2 ∨ o.2 = 3))) ∧ zDs r (d + 1) e) ∨ ((o.1 = 3 ∨ o.1 = 4) ∧ 1 ≤ d ∧ zDs r d e) ∨ (zSgn o.1 ∧ 2 ≤ d ∧ zDs r (d - 1) e)
/-- the steps stand in both sides' rows from the places x and y on -/
def zAt (cod act wi : Nat → Int32) : List zOp → Nat → Nat → Prop
  | [], _, _ => True
  | o :: r, x, y => cod x = zXc o ∧ act y = o.1 ∧ wi y = o.2 ∧ zAt cod act wi r (x + 1) (y + 1)
def zXl (a : List zOp) : Nat := if a = [] then 0 else a.length + 1
/-- the lines: what is asked first (or nothing), and what counts -/
def zLR (cod act wi te le : Nat → Int32) (B K : Nat) : List (List zOp × List zOp) → Nat → Nat → Nat → Prop
  | [], _, _, _ => True
  | l :: r, x, y, k => (l.1 = [] ∨ (zDs l.1 0 1 ∧ cod (x + l.1.length) = -63)) ∧ zDs l.2 0 1 ∧ zAt cod act wi l.1 x (B + y) ∧ zAt cod act wi l.2 (x + zXl l.1) (B + (y + l.1.length)) ∧ cod (x + zXl l.1 + l.2.length) = -59 ∧
    te (K + k) = Int32.ofNat (y + l.1.length) ∧ le (K + k) = Int32.ofNat (y + l.1.length + l.2.length) ∧ zLR cod act wi te le B K r (x + zXl l.1 + l.2.length + 1) (y + l.1.length + l.2.length) (k + 1)
def zXt : List (List zOp × List zOp) → Nat
  | [] => 0
  | l :: r => zXl l.1 + l.2.length + 1 + zXt r
def zYt : List (List zOp × List zOp) → Nat
  | [] => 0
  | l :: r => l.1.length + l.2.length + zYt r
def zLaw (l : Nat) (len : Int32) (cod act wi : Nat → Int32) (lm : Int32) (te le : Nat → Int32) : Prop := ∃ ls : List (List zOp × List zOp), zLR cod act wi te le (130 * l) (61 * l) ls 0 0 0 ∧ len = Int32.ofNat (zXt ls) ∧ zXt ls ≤ 121 ∧ lm = Int32.ofNat ls.length ∧ ls.length ≤ 61 ∧ zYt ls ≤ 130
def rLaws (n m : Int32) (len c0 c1 c2 c3 act wi lm te le : Nat → Int32) : Prop := n = m ∧ 0 ≤ n ∧ n ≤ 4 ∧
  (0 < n → zLaw 0 (len 0) c0 act wi (lm 0) te le) ∧ (1 < n → zLaw 1 (len 1) c1 act wi (lm 1) te le) ∧ (2 < n → zLaw 2 (len 2) c2 act wi (lm 2) te le) ∧ (3 < n → zLaw 3 (len 3) c3 act wi (lm 3) te le)
def zRel (SX SR : zSt) : Prop :=
  rTape (SX.1 1101) (SR.1 2) (SX.1 1102) (SX.2.1 1100) (SR.2.1 1) ∧
  rPlaces (SX.1 904) (SR.1 3) (SX.2.1 901) (SX.2.1 902) (SX.2.1 903) (SR.2.1 4) (SR.2.1 5) (SR.2.1 6) ∧
  rPeople (SX.1 801) (SR.1 28) (SX.2.1 800) (SR.2.1 29) (SR.2.1 30) (SR.2.1 31) (SR.2.1 32) ∧
  rSky (SX.1 506) (SR.1 26) (SX.1 507) (SR.1 27) (SX.1 508) (SR.1 25) (SR.1 24) ∧
  rLaws (SX.1 505) (SR.1 24) (SX.2.1 502) (SX.2.1 5010) (SX.2.1 5011) (SX.2.1 5012) (SX.2.1 5013) (SR.2.1 17) (SR.2.1 18) (SR.2.1 19) (SR.2.1 20) (SR.2.1 21) ∧
  rNotch (SX.1 602) (SR.1 37) (SX.2.1 600) (SX.2.1 601) (SR.2.1 38) (SR.2.1 39) ∧
  rBodies (SX.1 102) (SR.1 40) (SX.2.1 100) (SR.2.1 41) ∧
  rTrace (SX.1 103) (SR.1 42) (SX.2.1 101) (SR.2.1 43) ∧
  rShelf (SR.1 40) (SX.2.1 1000) (SX.2.1 1001) (SX.2.1 1002) (SR.2.1 44) (SR.2.1 45) SX.2.2 (SR.2.2 46) ∧
  rChange (SX.1 205) (SR.1 7) (SX.1 206) (SR.1 8) (SR.1 3) (SR.1 28) (SX.2.1 902) (SX.2.1 202) (SX.2.1 203) (SX.2.1 204) (SR.2.1 9) (SR.2.1 10) (SR.2.1 11) (SR.2.1 12) ∧
  rGust (SR.2.1 35)
/-- both answer alike, and agree again -/
def zEq (a b : Option (Int32 × zSt)) : Prop := ∃ (r : Int32) (SX1 SR1 : zSt), a = some (r, SX1) ∧ b = some (r, SR1) ∧ zRel SX1 SR1
theorem zEq_i {r r2 : Int32} {SX SR : zSt} (h : r = r2) (hR : zRel SX SR) : zEq (some (r, SX)) (some (r2, SR)) := ⟨r, SX, SR, rfl, by rw [h], hR⟩
theorem one_ne : ((1 : Int32) = 0) = False := by decide
theorem zar1 {n : Int32} (h : 0 ≤ n) : (-1 : Int32) < n := by grind
theorem zar2 {n : Int32} (h : 0 ≤ n) : (-1 : Int32) ≤ n := by grind
theorem zar3 {i n k : Int32} (h : i < n) (h2 : n ≤ k) : i < k := by grind
theorem zar4 {p w : Int32} (h : 0 ≤ p) (h2 : p < 8) (h3 : 0 ≤ w) (h4 : w ≤ 3) : 0 ≤ p * 4 + w ∧ p * 4 + w < 32 := by grind
theorem zar5 {a b : Int32} (h : a ≤ b) : ¬ b < a := by grind
theorem zar6 {a b : Int32} (h : a < b) : ¬ b ≤ a := by grind
theorem zar7 {w : Int32} (h3 : 0 ≤ w) (h4 : w ≤ 3) (a : ¬ w = 0) (b : ¬ w = 1) (c : ¬ w = 2) : w = 3 := by grind
theorem zar8 {w : Int32} (h3 : ¬ (0 ≤ w ∧ w ≤ 3)) : ¬ w = 0 ∧ ¬ w = 1 ∧ ¬ w = 2 ∧ ¬ w = 3 := by grind
-- small static methods
theorem e_isWithin (v a b : Int32) : fX11_isWithin v a b = some (if a ≤ v ∧ v ≤ b then 1 else 0) := by
  unfold fX11_isWithin
  grind
theorem e_in (v a b : Int32) : fX12_in v a b = some (if a ≤ v ∧ v ≤ b then 1 else 0) := by
  unfold fX12_in
  grind
theorem e_has4 (p : Int32) (S : zSt) : fX4_has p S = some (if 0 ≤ p ∧ p < S.1 505 then 1 else 0, S) := by
  unfold fX4_has
  grind
theorem e_has7 (p : Int32) (S : zSt) : fX7_has p S = some (if 0 ≤ p ∧ p < S.1 801 then 1 else 0, S) := by
  unfold fX7_has
  grind
theorem e_has8 (p : Int32) (S : zSt) : fX8_has p S = some (if 0 ≤ p ∧ p < S.1 904 then 1 else 0, S) := by
  unfold fX8_has
  grind
theorem e_has0 (p : Int32) (S : zSt) : fX0_has p S = some (if 0 ≤ p ∧ p < S.1 102 then 1 else 0, S) := by
  unfold fX0_has
  grind
theorem e_isLaw (p : Int32) (S : zSt) (h : 0 ≤ S.1 24) : fX12_isLaw p S = some (if 0 ≤ p ∧ p < S.1 24 then 1 else 0, S) := by
  unfold fX12_isLaw
  simp only [e_in, zU_some, zbit10, if_true]
  grind
theorem e_isPerson (p : Int32) (S : zSt) (h : 0 ≤ S.1 28) : fX12_isPerson p S = some (if 0 ≤ p ∧ p < S.1 28 then 1 else 0, S) := by
  unfold fX12_isPerson
  simp only [e_in, zU_some, zbit10, if_true]
  grind
theorem e_isPlace (p : Int32) (S : zSt) (h : 0 ≤ S.1 3) : fX12_isPlace p S = some (if 0 ≤ p ∧ p < S.1 3 then 1 else 0, S) := by
  unfold fX12_isPlace
  simp only [e_in, zU_some, zbit10, if_true]
  grind
theorem e_isBody (p : Int32) (S : zSt) (h : 0 ≤ S.1 40) : fX12_isBody p S = some (if 0 ≤ p ∧ p < S.1 40 then 1 else 0, S) := by
  unfold fX12_isBody
  simp only [e_in, zU_some, zbit10, if_true]
  grind
theorem q_count {SX SR : zSt} (hRel : zRel SX SR) (p1 : Int32) : zEq (fX11_count p1 SX) (fX12_count p1 SR) := by
  obtain ⟨hT, hP, hPe, hS, hL, hN, hB, hTr, hSh, hC, hG⟩ := id hRel
  unfold fX11_count fX12_count
  repeat' split
  all_goals exact zEq_i (by first | rfl | exact hP.1 | exact hL.1 | exact hPe.1 | exact hN.1 | exact hT.1 | exact hC.1 | exact hB.1 | exact hTr.1) hRel
theorem q_sky {SX SR : zSt} (hRel : zRel SX SR) (p1 p2 : Int32) : zEq (fX11_sky p1 p2 SX) (fX12_sky p1 p2 SR) := by
  obtain ⟨hT, hP, hPe, hS, hL, hN, hB, hTr, hSh, hC, hG⟩ := id hRel
  unfold fX11_sky fX12_sky fX11_sky_b42 fX12_sky_b36
  simp only [e_isWithin, e_in, zU_some, zL_def, z10]
  repeat' split
  · exact zEq_i rfl hRel
  · exact zEq_i rfl hRel
  · exact zEq_i hS.1 ⟨hT, hP, hPe, ⟨rfl, hS.2⟩, hL, hN, hB, hTr, hSh, hC, hG⟩
  · exact zEq_i hS.2.1 ⟨hT, hP, hPe, ⟨hS.1, rfl, hS.2.2⟩, hL, hN, hB, hTr, hSh, hC, hG⟩
theorem q_force {SX SR : zSt} (hRel : zRel SX SR) (p1 : Int32) : zEq (fX11_force p1 SX) (fX12_force p1 SR) := by
  obtain ⟨hT, hP, hPe, hS, hL, hN, hB, hTr, hSh, hC, hG⟩ := id hRel
  obtain ⟨l1, l2, l3⟩ := id hL
  obtain ⟨s1, s2, s3, s4, s5⟩ := id hS
  have h24 : 0 ≤ SR.1 24 := by rw [← l1]; exact l2
  have upd : -1 ≤ p1 → p1 < SR.1 24 → zEq (fX11_force_b19 p1 SX) (fX12_force_b16 p1 SR) := fun u1 u2 => by
    unfold fX11_force_b19 fX12_force_b16
    simp only [zL_def]
    exact zEq_i s3 ⟨hT, hP, hPe, ⟨s1, s2, rfl, u1, u2⟩, hL, hN, hB, hTr, hSh, hC, hG⟩
  unfold fX11_force fX12_force
  by_cases c : p1 = -1
  · simp only [c, if_true]
    rw [c] at upd
    exact upd (by decide) (zar1 h24)
  · by_cases h : 0 ≤ p1 ∧ p1 < SR.1 24
    · simp only [e_has4, e_isLaw _ _ h24, zB_some, l1, h, c, and_self, if_true, if_false, reduceCtorEq, one_ne]
      exact upd (zar2 h.1) h.2
    · simp only [e_has4, e_isLaw _ _ h24, zB_some, l1, h, c, if_true, if_false]
      exact zEq_i rfl hRel
theorem q_trace {SX SR : zSt} (hRel : zRel SX SR) (p1 : Int32) : zEq (fX11_trace p1 SX) (fX12_trace p1 SR) := by
  obtain ⟨t1, t2, t3, t4⟩ := hRel.2.2.2.2.2.2.2.1
  have e : fX0_hasTrace p1 SX = some (if 0 ≤ p1 ∧ p1 < SX.1 103 ∧ p1 < 24 then 1 else 0, SX) := by
    unfold fX0_hasTrace
    grind
  have e2 : fX12_trace p1 SR = if 0 ≤ p1 ∧ p1 < SR.1 42 ∧ p1 < 24 then (if zin p1 24 then some (SR.2.1 43 (Int32.toNatClampNeg p1), SR) else none) else some (-1, SR) := by
    unfold fX12_trace
    grind
  unfold fX11_trace fX0_traceAt
  rw [e2, ← t1]
  by_cases h : 0 ≤ p1 ∧ p1 < SX.1 103 ∧ p1 < 24
  · have hz : zin p1 24 := zin_of (k := 24) rfl (by decide) h.1 h.2.2
    simp only [e, h, and_self, if_true, zB_some, one_ne, if_false, if_pos hz]
    exact zEq_i (t4 p1 h.1 h.2.1 h.2.2) hRel
  · simp only [e, h, if_false, zB_some, if_true]
    exact zEq_i rfl hRel
theorem q_of {SX SR : zSt} (hRel : zRel SX SR) (p1 p2 : Int32) : zEq (fX11_of p1 p2 SX) (fX12_of p1 p2 SR) := by
  obtain ⟨a1, a2, a3, a4⟩ := hRel.2.2.1
  have h28 : 0 ≤ SR.1 28 := by rw [← a1]; exact a2
  unfold fX11_of fX12_of fX7_trait
  simp only [e_has7, e_isPerson _ _ h28, e_isWithin, zB_some, zU_some, ← a1]
  by_cases h : 0 ≤ p1 ∧ p1 < SX.1 801
  · have hz : zin p1 8 := zin_of (k := 8) rfl (by decide) h.1 (zar3 h.2 a3)
    obtain ⟨b0, b1, b2, b3⟩ := a4 p1 h.1 h.2
    by_cases h2 : 0 ≤ p2 ∧ p2 ≤ 3
    · obtain ⟨n1, n2⟩ := zar4 h.1 (zar3 h.2 a3) h2.1 h2.2
      have hz2 : zin (p1 * 4 + p2) 32 := zin_of (k := 32) rfl (by decide) n1 n2
      have n1' : ¬ p1 * 4 + p2 < 0 := zar5 n1
      have n2' : ¬ 32 ≤ p1 * 4 + p2 := zar6 n2
      simp only [h, h2, and_self, if_true, one_ne, if_false, n1', n2', if_pos hz2, if_pos hz, zB_some]
      by_cases c0 : p2 = 0
      · subst c0; simp only [if_true]; exact zEq_i b0.1 hRel
      by_cases c1 : p2 = 1
      · subst c1; simp only [if_true, one_ne, if_false]; exact zEq_i b1.1 hRel
      by_cases c2 : p2 = 2
      · subst c2; simp only [c0, c1, if_true, if_false]; exact zEq_i b2.1 hRel
      have c3 : p2 = 3 := zar7 h2.1 h2.2 c0 c1 c2
      subst c3
      simp only [c0, c1, c2, if_true, if_false]; exact zEq_i b3.1 hRel
    · obtain ⟨c0, c1, c2, c3⟩ := zar8 h2
      simp only [h, h2, and_self, if_true, one_ne, if_false, c0, c1, c2, c3]
      exact zEq_i rfl hRel
  · simp only [h, if_false, if_true]
    exact zEq_i rfl hRel

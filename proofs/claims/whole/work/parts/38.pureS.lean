-- how far a MARGIN may fall
def zbd (M : Nat) (x : Int32) : Prop := x.toInt.natAbs ≤ M
theorem zbd_mono {M N : Nat} {x : Int32} (h : zbd M x) (h2 : M ≤ N) : zbd N x := Nat.le_trans h h2
theorem zbm {x : Int} (h : x.natAbs < 2147483648) : x.bmod (2 ^ 32) = x := Int.bmod_eq_of_le (by omega) (by omega)
theorem zbd_add {M N : Nat} {x y : Int32} (hx : zbd M x) (hy : zbd N y) (h : M + N < 2147483648) : zbd (M + N) (x + y) := by
  unfold zbd at *
  rw [Int32.toInt_add, zbm (by omega)]
  omega
theorem zbd_sub {M N : Nat} {x y : Int32} (hx : zbd M x) (hy : zbd N y) (h : M + N < 2147483648) : zbd (M + N) (x - y) := by
  unfold zbd at *
  rw [Int32.toInt_sub, zbm (by omega)]
  omega
theorem zbd_mul {M N : Nat} {x y : Int32} (hx : zbd M x) (hy : zbd N y) (h : M * N < 2147483648) : zbd (M * N) (x * y) := by
  unfold zbd at *
  have e : (x.toInt * y.toInt).natAbs ≤ M * N := by
    rw [Int.natAbs_mul]
    exact Nat.mul_le_mul hx hy
  rw [Int32.toInt_mul, zbm (by omega)]
  exact e
theorem zbd_div {M : Nat} {x : Int32} (y : Int32) (hx : zbd M x) (h : M < 2147483648) : zbd M (x / y) := by
  unfold zbd at *
  have e : (x.toInt.tdiv y.toInt).natAbs ≤ M := by
    rw [Int.natAbs_tdiv]
    exact Nat.le_trans (Nat.div_le_self _ _) hx
  rw [Int32.toInt_div, zbm (by omega)]
  exact e
theorem zbd_1000 (x : Int32) : zbd 2147483 (x / 1000) := by
  unfold zbd
  have a := Int32.toInt_lt x
  have b := Int32.le_toInt x
  have e : (x.toInt.tdiv (1000 : Int32).toInt).natAbs ≤ 2147483 := by
    rw [Int.natAbs_tdiv, show (1000 : Int32).toInt.natAbs = 1000 from by decide]
    show x.toInt.natAbs / 1000 ≤ 2147483
    omega
  rw [Int32.toInt_div, zbm (by omega)]
  exact e
theorem zbd_of {x : Int32} {k : Nat} (h0 : 0 ≤ x) (hk : k < 2147483648) (h : x ≤ Int32.ofNat k) : zbd k x := by
  obtain ⟨n, hn, rfl⟩ := zo_exle h0 hk h
  unfold zbd
  rw [zo_i (by omega)]
  omega
theorem zle0 {x k : Int32} (h : k ≤ x) (h2 : 0 ≤ k) : 0 ≤ x := Int32.le_trans h2 h
theorem zbd_plain {E : zE} {np m : Nat} {nc : Nat → Nat} (hE : zOkE E np m nc) {q : Nat} (hq : q < m) {d b : Int32} (hd : 0 ≤ d) (hb : 0 ≤ b) (hb2 : b ≤ 9) : zbd 50400 (zPlain E q d b) := by
  obtain ⟨⟨w0, w1⟩, ⟨h0, h1⟩, ⟨l0, l1⟩, ⟨k0, k1⟩⟩ := hE.2.2.2 q hq
  have W : zbd 120 (E.1 q) := zbd_of (zle0 w0 (by decide)) (by decide) w1
  have K : zbd 40 (E.2.2.2.1 q) := zbd_of k0 (by decide) k1
  have L : zbd 9 (E.2.2.1 q) := zbd_of l0 (by decide) l1
  have B : zbd 9 b := zbd_of hb (by decide) hb2
  have S : zbd 22 (zSunk (E.2.1 q) d) := by
    unfold zSunk
    by_cases c : E.2.1 q ≤ d
    · rw [if_pos c]; exact zbd_of (zle0 h0 (by decide)) (by decide) h1
    · rw [if_neg c]; exact zbd_of hd (by decide) (Int32.le_trans (Int32.le_of_lt (Int32.not_le.mp c)) h1)
  exact zbd_mul (M := 2800) (N := 18) (zbd_sub (M := 160) (N := 2640) (zbd_add (M := 120) (N := 40) W K (by decide)) (zbd_div _ (zbd_mul (M := 120) (N := 22) W S (by decide)) (by decide)) (by decide)) (zbd_add (M := 9) (N := 9) B L (by decide)) (by decide)
theorem zbd_sum {E : zE} {np m : Nat} {nc : Nat → Nat} (hE : zOkE E np m nc) {g : Nat → Nat} {d b : Int32} (hd : 0 ≤ d) (hb : 0 ≤ b) (hb2 : b ≤ 9) : ∀ k, k ≤ 5 → (∀ j, j < k → g j < m) → zbd (50400 * k) (zSum E g d b k) := by
  intro k
  induction k with
  | zero => intro _ _; show (0 : Int32).toInt.natAbs ≤ 50400 * 0; decide
  | succ k ih =>
    intro h hg
    have := zbd_add (ih (by omega) (fun j hj => hg j (by omega))) (zbd_plain hE (hg k (by omega)) hd hb hb2) (by omega)
    exact this
theorem zmx_0 (x : Int32) : 0 ≤ zmx 0 x := by
  unfold zmx
  grind
theorem zMar_gt {E : zE} {np m : Nat} {nc : Nat → Nat} {n : Nat} {g : Nat → Nat} (hH : zH E np m nc n g) (f : Int32) {p i k : Nat} (hp : p < np) (hi : i < nc p) (hk : k < n) (e u : Int32) : -2000000000 < zMar E n g f p i e u k := by
  obtain ⟨hE, n1, n5, hg, -⟩ := hH
  obtain ⟨-, -, b0, b9⟩ := (hE.2.2.1 p hp).2.2 i hi
  have hd := zmx_0 (E.2.2.2.2.1 (36 * p + 3 * i) + e)
  have P : zbd 50400 (zPlain E (g k) (zDep E p i e) (zBed E p i)) := zbd_plain hE (hg k hk) hd b0 b9
  have Sm : zbd 252000 (zSum E g (zDep E p i e) (zBed E p i) n) := zbd_mono (zbd_sum hE hd b0 b9 n n5 hg) (by omega)
  have H : zbd 302400 (zHold E n g f (zDep E p i e) (zBed E p i) k) := by
    unfold zHold
    by_cases c : f = 0
    · rw [if_pos c]; exact zbd_mono (zbd_add P (zbd_div _ P (by decide)) (by decide)) (by decide)
    · rw [if_neg c]
      by_cases c : f = 3
      · rw [if_pos c]; exact zbd_div _ (zbd_mono (zbd_add P (zbd_div _ Sm (by decide)) (by decide)) (by decide)) (by decide)
      · rw [if_neg c]; exact zbd_mono P (by decide)
  unfold zMar zMarg
  by_cases c : E.2.1 (g k) ≤ zDep E p i e
  · rw [if_pos c]; decide
  · rw [if_neg c]
    have Z := zbd_sub H (show zbd 2147483 (zPush E (g k) (zDep E p i e) (zPac E p i e + u) (zLee f k)) from zbd_1000 _) (by decide)
    unfold zbd at Z
    rw [Int32.lt_iff_toInt_lt, show (-2000000000 : Int32).toInt = -2000000000 from by decide]
    omega
theorem zLst_gt {E : zE} {np m : Nat} {nc : Nat → Nat} {n : Nat} {g : Nat → Nat} (hH : zH E np m nc n g) {f : Int32} {p : Nat} (hp : p < np) {e l : Int32} {U : Nat → Int32} (h : zLst (fun i k => zMar E n g f p i e (U i) k) (nc p) n l) : -2000000000 < l := by
  obtain ⟨i, k, hi, hk, q⟩ := h.2
  rw [q]
  exact zMar_gt hH f hp hi hk e _
-- the calls' beginning
theorem zSR_of {E : zE} {np m : Nat} {nc : Nat → Nat} {n : Nat} {g : Nat → Nat} {SX S : zSt} (h : zRV E np m nc S) (h2 : zGrp n g S) (hR : zRel SX S) : zSR E np m nc n g (fun _ => 0) S :=
  ⟨h, h2, fun i hi => by
    have x := hR.2.2.2.2.2.2.2.2.2.2 (Int32.ofNat i) (zo_0 (by omega)) (by show Int32.ofNat i < Int32.ofNat 12; rw [zo_lt (by omega) (by omega)]; exact hi)
    rwa [zo_t (by omega)] at x⟩
theorem zn4 {f : Nat} (h : f < 4) : ¬ Int32.ofNat f = 4 := fun e => by
  have e : Int32.ofNat f = Int32.ofNat 4 := e
  rw [zo_eq (by omega) (by omega)] at e
  omega
theorem e_pre {SX SR : zSt} (hRel : zRel SX SR) (p1 gf bad : Int32) (kX kR : zSt → Option (Int32 × zSt))
    (h : ∀ (E : zE) (np m : Nat) (nc : Nat → Nat) (n : Nat) (g : Nat → Nat) (f p hr : Nat) (SX1 SR1 : zSt), zH E np m nc n g → zRel SX1 SR1 → zSX E np m nc n g (Int32.ofNat f) SX1 → zSR E np m nc n g (fun _ => 0) SR1 → f < 4 → p < np → hr < 48 → p1 / 100 = Int32.ofNat p → p1 - p1 / 100 * 100 = Int32.ofNat hr → gf - gf / 10 * 10 = Int32.ofNat f → zEq (kX SX1) (kR SR1)) :
    zEq (zB (fX11_isPlaceAndHour p1 SX) fun r1 S2 => if r1 = 0 then some (bad, S2) else zB (fX11_takesGroup zN gf S2) fun r5 S6 => if r5 = 0 then some (bad, S6) else kX S6)
      (zB (fX12_isAt p1 SR) fun r1 S2 => if r1 = 0 then some (bad, S2) else zB (fX12_areSo zN gf S2) fun r5 S6 => if r5 = 0 then some (bad, S6) else kR S6) := by
  obtain ⟨np, m, nc, E, hE, hX, hV⟩ := zview hRel
  rcases e_at hE hX hV p1 with ⟨a1, a2⟩ | ⟨a1, a2, p, hr, hp, hh, e1, e2⟩
  · rw [a1, a2, zB_some, zB_some, if_pos zn00, if_pos zn00]
    exact zEq_i rfl hRel
  · rw [a1, a2, zB_some, zB_some, if_neg zn10, if_neg zn10]
    rcases e_group hE.2.1 hX.2.1 hV.2.1 gf with ⟨SX1, SR1, b1, b2, k1, k2⟩ | ⟨SX1, SR1, n, g, f, b1, b2, k1, k2, ok, f4, ef, gx, gr⟩
    · rw [b1, b2, zB_some, zB_some, if_pos zn00, if_pos zn00]
      exact zEq_i rfl (zRel_T hRel k1 k2)
    · rw [b1, b2, zB_some, zB_some, if_neg zn10, if_neg zn10]
      have hR1 := zRel_T hRel k1 k2
      exact h E np m nc n g f p hr SX1 SR1 ⟨hE, ok⟩ hR1 ⟨zXV_T hX k1, gx⟩ (zSR_of (zRV_T hV k2) gr hR1) f4 hp hh e1 e2 ef
theorem e_riseG {E : zE} {np m : Nat} {nc : Nat → Nat} {n : Nat} {g : Nat → Nat} {f : Int32} {SX SR : zSt} (hRel : zRel SX SR) (hX : zSX E np m nc n g f SX) (hR : zSR E np m nc n g (fun _ => 0) SR) (hour : Int32) : ∃ (v : Int32) (SX1 SR1 : zSt), fX4_riseInForce zN hour SX = some (v, SX1) ∧ fX12_riseBy zN (SR.1 25) hour SR = some (v, SR1) ∧ (-20 ≤ v ∧ v ≤ 60) ∧ zRel SX1 SR1 ∧ zSX E np m nc n g f SX1 ∧ zSR E np m nc n g (fun _ => 0) SR1 ∧ zKeep [504] [503] SX SX1 ∧ zKeep [] [22, 23] SR SR1 := by
  obtain ⟨v, SX1, SR1, g1, g2, b, k1, k2⟩ := e_riseF hRel hour
  exact ⟨v, SX1, SR1, g1, g2, b, zRel_T hRel (zTX_of k1 (by simp) (by simp)) (zTR_of k2 (by simp) (by simp)), zSX_K hX k1 (by simp) (by decide), zSR_K hR k2 (by simp) (by decide), k1, k2⟩
theorem zRel_X {SX SR SX1 : zSt} {I A : List Nat} (hR : zRel SX SR) (k : zKeep I A SX SX1) (hI : ∀ k ∈ I, k ∈ [303, 304, 504, 705, 706]) (hA : ∀ k ∈ A, k ∈ [503, 701, 702, 703, 704]) : zRel SX1 SR := zRel_T hR (zTX_of k hI hA) (zTR_refl _)
-- over
theorem r_ff_in {E : zE} {np m : Nat} {nc : Nat → Nat} {n : Nat} {g : Nat → Nat} (hH : zH E np m nc n g) {U : Nat → Int32} {S : zSt} (hS : zSR E np m nc n g U S) {f : Nat} (hf : f < 4) {v2 : Int32} (e2 : v2 - v2 / 10 * 10 = Int32.ofNat f) {p i : Nat} (hp : p < np) (hi : i < 12) (e : Int32) (K : Int32 → Int32 → Int32 → Int32 → zSt → Option (Int32 × zSt)) : ∀ (fu k c : Nat), k + c = n → 5 < k + fu →
    fX12_over_b111 zN K fu v2 (Int32.ofNat p) e (Int32.ofNat i) (Int32.ofNat k) S = if zFirst (zMar E n g (Int32.ofNat f) p i e (U i)) c k = -2 then K v2 (Int32.ofNat p) e (Int32.ofNat (i + 1)) S else some (100 * Int32.ofNat i + zFirst (zMar E n g (Int32.ofNat f) p i e (U i)) c k, S) := by
  have n5 := hH.2.2.1
  intro fu
  induction fu with
  | zero => intro k c h1 h2; exact absurd h2 (by omega)
  | succ fu ih =>
    intro k c h1 h2
    rw [fX12_over_b111, hS.2.1.1, zi_le (by omega) (by omega)]
    cases c with
    | zero => rw [if_pos (by omega), zo_s]; rfl
    | succ c =>
      rw [if_neg (by omega), e2, r_mar hH hS (zn4 hf) hp hi e (by omega), zB_some, zFirst]
      by_cases d : 0 ≤ zMar E n g (Int32.ofNat f) p i e (U i) k
      · rw [if_pos d, if_pos d, zo_s]
        exact ih (k + 1) c (by omega) (by omega)
      · rw [if_neg d, if_neg d, if_neg (zo_ne2 (by omega))]
theorem r_ff {E : zE} {np m : Nat} {nc : Nat → Nat} {n : Nat} {g : Nat → Nat} (hH : zH E np m nc n g) {U : Nat → Int32} {S : zSt} (hS : zSR E np m nc n g U S) {f : Nat} (hf : f < 4) {v2 : Int32} (e2 : v2 - v2 / 10 * 10 = Int32.ofNat f) {p : Nat} (hp : p < np) (e : Int32) : ∀ (fu i c : Nat), i + c = nc p → 12 < i + fu →
    fX12_over_b96 zN fu v2 (Int32.ofNat p) e (Int32.ofNat i) S = some (zFF (zG E n g (Int32.ofNat f) p e U) c i, S) := by
  have n6 := hH.1.1
  have n12 := (hH.1.2.2.1 p hp).2.1
  intro fu
  induction fu with
  | zero => intro i c h1 h2; exact absurd h2 (by omega)
  | succ fu ih =>
    intro i c h1 h2
    rw [fX12_over_b96, if_pos (zin_o (by omega) (by decide)), zo_t (by omega), hS.1.2.2.1 p hp, zi_le (by omega) (by omega)]
    cases c with
    | zero => rw [if_pos (by omega)]; rfl
    | succ c =>
      have ll := r_ff_in hH hS hf e2 hp (by omega : i < 12) e (fX12_over_b96 zN fu) zN 0 n (by omega) (by decide)
      rw [if_neg (by omega), show fX12_over_b111 zN (fX12_over_b96 zN fu) zN v2 (Int32.ofNat p) e (Int32.ofNat i) 0 S = _ from ll, zFF]
      show (if zG E n g (Int32.ofNat f) p e U i = -2 then _ else some (100 * Int32.ofNat i + zG E n g (Int32.ofNat f) p e U i, S)) = _
      by_cases d : zG E n g (Int32.ofNat f) p e U i = -2
      · rw [if_pos d, if_pos d]
        exact ih (i + 1) c (by omega) (by omega)
      · rw [if_neg d, if_neg d]
theorem q_over {SX SR : zSt} (hRel : zRel SX SR) (p1 p2 p3 : Int32) : zEq (fX11_over zN p1 p2 p3 SX) (fX12_over zN p1 p2 p3 SR) := by
  unfold fX11_over fX12_over
  refine e_pre hRel p1 p2 _ _ _ (fun E np m nc n g f p hr SX1 SR1 hH hR hX hV f4 hp hh e1 e2 ef => ?_)
  rw [e_isWithin, e_in, zU_some, zU_some]
  by_cases w : 0 ≤ p3 ∧ p3 ≤ 2
  · obtain ⟨v, SX2, SR2, g1, g2, b, hR2, hX2, hV2, -, -⟩ := e_riseG hR hX hV (p1 - p1 / 100 * 100)
    obtain ⟨SX3, a1, k1⟩ := x_firstFall hH hp v hX2
    have a2 := r_isOver hH hV2 (zn4 f4) hp v
    have a3 := r_ff hH hV2 f4 ef hp v zN 0 (nc p) (by omega) (by decide)
    have hR3 := zRel_X hR2 k1 (by simp) (by simp)
    rw [if_pos w, if_neg zn10, if_neg zn10, g1, g2, zB_some, zB_some, e1, a1, zB_some]
    rcases zw9 w with h | h | h
    · subst h
      rw [if_neg (show ¬ (0 : Int32) = 1 by decide), if_neg (show ¬ (0 : Int32) = 2 by decide), if_neg (show ¬ (2 : Int32) ≤ 0 by decide), if_pos zn00, ef, a2, zB_some]
      by_cases d : zFF (zG E n g (Int32.ofNat f) p v (fun _ => 0)) (nc p) 0 = -2
      · rw [if_pos d, if_pos d, if_neg zn10]
        exact zEq_i rfl hR3
      · rw [if_neg d, if_neg d, if_pos zn00]
        exact zEq_i rfl hR3
    · subst h
      obtain ⟨l, b1, b2⟩ := r_least hH hV2 (zn4 f4) hp v
      obtain ⟨SX4, r, c1, c2, c3⟩ := x_least hH hp v (-2000000000) hX2
      have := (c3 l b2).1 (zLst_gt (U := fun _ => 0) hH hp b2)
      rw [if_pos (show (1 : Int32) = 1 from rfl), if_neg (show ¬ (2 : Int32) ≤ 1 by decide), if_neg zn10, ef, b1, zB_some, c1, zB_some]
      exact zEq_i this (zRel_X hR2 c2 (by simp) (by simp))
    · subst h
      rw [if_neg (show ¬ (2 : Int32) = 1 by decide), if_pos (show (2 : Int32) = 2 from rfl), if_pos (show (2 : Int32) ≤ 2 by decide)]
      rw [show fX12_over_b96 zN zN p2 (Int32.ofNat p) v 0 SR2 = _ from a3]
      exact zEq_i rfl hR3
  · rw [if_neg w, if_pos zn00, if_pos zn00]
    exact zEq_i rfl hR

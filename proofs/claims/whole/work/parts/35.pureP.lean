-- HOLD, PUSH, MARGIN
def zSunk (h d : Int32) : Int32 := if h ≤ d then h else d
def zPlain (E : zE) (q : Nat) (d b : Int32) : Int32 := ((E.1 q + E.2.2.2.1 q) - (E.1 q * zSunk (E.2.1 q) d) / E.2.1 q) * (b + E.2.2.1 q)
def zSum (E : zE) (g : Nat → Nat) (d b : Int32) : Nat → Int32
  | 0 => 0
  | k + 1 => zSum E g d b k + zPlain E (g k) d b
def zHold (E : zE) (n : Nat) (g : Nat → Nat) (f d b : Int32) (k : Nat) : Int32 :=
  if f = 0 then zPlain E (g k) d b + zPlain E (g k) d b / 10 else if f = 3 then (zPlain E (g k) d b + zSum E g d b n / Int32.ofNat n) / 2 else zPlain E (g k) d b
def zLee (f : Int32) (k : Nat) : Int32 := if f = 1 then 100 - 15 * Int32.ofNat k else if f = 2 then (if k = 0 then 100 else if 3 ≤ k then 40 else 60) else if f = 4 then 40 else 100
def zPush (E : zE) (q : Nat) (d s lee : Int32) : Int32 := zSunk (E.2.1 q) d * s * s * lee / 1000
def zMarg (E : zE) (n : Nat) (g : Nat → Nat) (f d s b : Int32) (k : Nat) : Int32 :=
  if E.2.1 (g k) ≤ d then -9999 else zHold E n g f d b k - zPush E (g k) d s (zLee f k)
def zMar (E : zE) (n : Nat) (g : Nat → Nat) (f : Int32) (p i : Nat) (e u : Int32) (k : Nat) : Int32 :=
  zMarg E n g f (zDep E p i e) (zPac E p i e + u) (zBed E p i) k
/-- the GROUP as each side holds it -/
def zGX (n : Nat) (g : Nat → Nat) (f : Int32) (S : zSt) : Prop := S.1 705 = Int32.ofNat n ∧ S.1 706 = f ∧ ∀ k, k < n → S.2.1 701 k = Int32.ofNat (g k)
def zGrp (n : Nat) (g : Nat → Nat) (S : zSt) : Prop := S.1 33 = Int32.ofNat n ∧ ∀ k, k < n → S.2.1 34 k = Int32.ofNat (g k)
theorem zGX_K {n : Nat} {g : Nat → Nat} {f : Int32} {a b : zSt} {I A : List Nat} (h : zGX n g f a) (k : zKeep I A a b) (hI : ∀ j ∈ [705, 706], j ∉ I) (hA : 701 ∉ A) : zGX n g f b := by
  unfold zGX
  rw [k.1 705 (hI 705 (by decide)), k.1 706 (hI 706 (by decide)), k.2.1 701 hA]
  exact h
theorem zGrp_K {n : Nat} {g : Nat → Nat} {a b : zSt} {I A : List Nat} (h : zGrp n g a) (k : zKeep I A a b) (hI : 33 ∉ I) (hA : 34 ∉ A) : zGrp n g b := by
  unfold zGrp
  rw [k.1 33 hI, k.2.1 34 hA]
  exact h
theorem zA_get (S : zSt) (c k j : Nat) (v : Int32) : (zA S c k v).2.1 c j = if j = k then v else S.2.1 c j := by
  rw [zA_self]
  rfl
theorem zA_oth (S : zSt) {c d : Nat} (k j : Nat) (v : Int32) (h : ¬ d = c) : (zA S c k v).2.1 d j = S.2.1 d j := by rw [zA_ne _ _ _ h]
theorem zmn_sunk (d h : Int32) : zmn d h = zSunk h d := by
  unfold zmn zSunk
  by_cases a : h < d
  · rw [if_pos a, if_pos (Int32.le_of_lt a)]
  · rw [if_neg a]
    by_cases b : h ≤ d
    · rw [if_pos b]; exact Int32.le_antisymm (Int32.not_lt.mp a) b
    · rw [if_neg b]
theorem x_trait {q w : Nat} (hq : q < 8) (hw : w < 4) (S : zSt) : fX7_trait (Int32.ofNat q) (Int32.ofNat w) S = some (S.2.1 800 (4 * q + w), S) := by
  unfold fX7_trait
  rw [zix4, if_neg (Int32.not_lt.mpr (zo_0 (by omega))), if_neg (fun x => by have x : Int32.ofNat 32 ≤ Int32.ofNat (4 * q + w) := x; rw [zo_le (by omega) (by omega)] at x; omega), if_pos (zin_o (by omega) (by decide)), zo_t (by omega)]
theorem zH_ne {h : Int32} (a : 10 ≤ h) : ¬ h = 0 := by
  rintro rfl
  exact absurd a (by decide)
theorem x_tr {E : zE} {np m : Nat} {nc : Nat → Nat} {S : zSt} (hE : zOkE E np m nc) (h : zXV E np m nc S) {q : Nat} (hq : q < m) :
    fX7_trait (Int32.ofNat q) 0 S = some (E.1 q, S) ∧ fX7_trait (Int32.ofNat q) 1 S = some (E.2.1 q, S) ∧ fX7_trait (Int32.ofNat q) 2 S = some (E.2.2.1 q, S) ∧ fX7_trait (Int32.ofNat q) 3 S = some (E.2.2.2.1 q, S) := by
  have m8 := hE.2.1
  obtain ⟨y0, y1, y2, y3⟩ := h.2.2.2 q hq
  have t0 : fX7_trait (Int32.ofNat q) 0 S = _ := x_trait (w := 0) (by omega) (by omega) S
  have t1 : fX7_trait (Int32.ofNat q) 1 S = _ := x_trait (w := 1) (by omega) (by omega) S
  have t2 : fX7_trait (Int32.ofNat q) 2 S = _ := x_trait (w := 2) (by omega) (by omega) S
  have t3 : fX7_trait (Int32.ofNat q) 3 S = _ := x_trait (w := 3) (by omega) (by omega) S
  exact ⟨by rw [t0, Nat.add_zero, y0], by rw [t1, y1], by rw [t2, y2], by rw [t3, y3]⟩
theorem x_plain {E : zE} {np m : Nat} {nc : Nat → Nat} {S : zSt} (hE : zOkE E np m nc) (h : zXV E np m nc S) {q : Nat} (hq : q < m) (d b : Int32) : fX6_holdAlike (Int32.ofNat q) d b S = some (zPlain E q d b, S) := by
  obtain ⟨t0, t1, t2, t3⟩ := x_tr hE h hq
  have hn := zH_ne (hE.2.2.2 q hq).2.1.1
  unfold fX6_holdAlike fX11_quotient
  rw [t0, zB_some, t1, zB_some, if_neg hn, if_pos hn, zU_some, t3, zB_some, t2, zB_some, zmn_sunk]
  rfl
theorem x_lee {S : zSt} {f : Int32} (hf : S.1 706 = f) {k : Nat} (hk : k < 8) (h2 : f = 2 → k < 5) : fX6_leeOf (Int32.ofNat k) S = some (zLee f k, S) := by
  unfold fX6_leeOf zLee
  rw [hf]
  by_cases c1 : f = 1
  · rw [if_pos c1, if_pos c1]
  rw [if_neg c1, if_neg c1]
  by_cases c2 : f = 2
  · have k5 := h2 c2
    rw [if_pos c2, if_pos c2, if_neg (Int32.not_lt.mpr (zo_0 (by omega))), if_neg (fun x => by have x : Int32.ofNat 5 ≤ Int32.ofNat k := x; rw [zo_le (by omega) (by omega)] at x; omega), if_pos (zin_o (by omega) (by decide)), zo_t (by omega)]
    have : k = 0 ∨ k = 1 ∨ k = 2 ∨ k = 3 ∨ k = 4 := by omega
    rcases this with rfl | rfl | rfl | rfl | rfl <;> rfl
  rw [if_neg c2, if_neg c2]
  by_cases c3 : f = 3
  · rw [if_pos c3, if_neg (by rw [c3]; decide)]
  rw [if_neg c3]
  by_cases c4 : f = 4
  · rw [if_pos c4, if_pos c4]
  · rw [if_neg c4, if_neg c4]
theorem x_form {S : zSt} {f : Int32} (hf : S.1 706 = f) {E : zE} {n : Nat} {g : Nat → Nat} (d b : Int32) (k : Nat) {mean : Int32} (hm : f = 3 → mean = zSum E g d b n / Int32.ofNat n) : fX6_holdInForm (zPlain E (g k) d b) mean S = some (zHold E n g f d b k, S) := by
  unfold fX6_holdInForm zHold
  rw [hf]
  by_cases c1 : f = 0
  · rw [if_pos c1, if_pos c1]
  rw [if_neg c1, if_neg c1]
  by_cases c2 : f = 3
  · rw [if_pos c2, if_pos c2, hm c2]
  · rw [if_neg c2, if_neg c2]
/-- the group's holds, alike in all forms -/
theorem x_enter1 {E : zE} {np m : Nat} {nc : Nat → Nat} (hE : zOkE E np m nc) {n : Nat} {g : Nat → Nat} (hn : n ≤ 8) (hg : ∀ k, k < n → g k < m) (d s b : Int32) : ∀ (fu k : Nat) (S : zSt), k ≤ n → 8 < k + fu → zXV E np m nc S → S.1 705 = Int32.ofNat n → (∀ j, j < n → S.2.1 701 j = Int32.ofNat (g j)) → (∀ j, j < k → S.2.1 702 j = zPlain E (g j) d b) →
    ∃ S1 : zSt, fX6_enter_b6 zN fu d s b (zSum E g d b k) (Int32.ofNat k) S = fX6_enter_b67 zN zN d s (if Int32.ofNat n = 0 then 0 else zSum E g d b n / Int32.ofNat n) 0 S1 ∧ zKeep [] [702] S S1 ∧ (∀ j, j < n → S1.2.1 702 j = zPlain E (g j) d b) := by
  have m8 := hE.2.1
  intro fu
  induction fu with
  | zero => intro k S h1 h2; exact absurd h2 (by omega)
  | succ fu ih =>
    intro k S h1 h2 hX h5 hr hh
    rw [fX6_enter_b6, h5, zi_le (by omega) (by omega)]
    by_cases c : n ≤ k
    · have : k = n := by omega
      subst this
      refine ⟨S, ?_, zK_refl _, hh⟩
      rw [if_pos c]
      unfold fX11_quotient
      by_cases z : Int32.ofNat k = 0
      · rw [if_pos z, if_pos z, zU_some]
      · rw [if_neg z, if_neg z, if_pos z, zU_some]
    · have z8 : zin (Int32.ofNat k) 8 := zin_o (by omega) (by decide)
      rw [if_neg c]
      simp only [if_pos z8, zL_def]
      rw [zo_t (by omega), hr k (by omega), x_plain hE hX (hg k (by omega)), zB_some, zA_get, if_pos rfl, zo_s]
      have K := zK_A S 702 k (zPlain E (g k) d b)
      obtain ⟨S1, e1, k1, r1⟩ := ih (k + 1) (zA S 702 k (zPlain E (g k) d b)) (by omega) (by omega) (zXV_K hX K (by simp) (by decide)) h5 (fun j hj => by rw [zA_oth _ _ _ _ (by decide)]; exact hr j hj) (fun j hj => by
        rw [zA_get]
        by_cases e : j = k
        · rw [if_pos e, e]
        · rw [if_neg e]; exact hh j (by omega))
      exact ⟨S1, e1, zK_t K k1, r1⟩
theorem x_enter2 {E : zE} {np m : Nat} {nc : Nat → Nat} (hE : zOkE E np m nc) {n : Nat} {g : Nat → Nat} {f : Int32} (hn : n ≤ 8) (hg : ∀ k, k < n → g k < m) (hf : f = 2 → n ≤ 5) (d s b mean : Int32) (hm : f = 3 → mean = zSum E g d b n / Int32.ofNat n) : ∀ (fu k : Nat) (S : zSt), k ≤ n → 8 < k + fu → zXV E np m nc S → zGX n g f S → (∀ j, k ≤ j → j < n → S.2.1 702 j = zPlain E (g j) d b) →
    (∀ j, j < k → S.2.1 702 j = zHold E n g f d b j ∧ S.2.1 703 j = zPush E (g j) d s (zLee f j) ∧ S.2.1 704 j = zMarg E n g f d s b j) →
    ∃ S1 : zSt, fX6_enter_b67 zN fu d s mean (Int32.ofNat k) S = some S1 ∧ zKeep [] [702, 703, 704] S S1 ∧ (∀ j, j < n → S1.2.1 702 j = zHold E n g f d b j ∧ S1.2.1 703 j = zPush E (g j) d s (zLee f j) ∧ S1.2.1 704 j = zMarg E n g f d s b j) := by
  have m8 := hE.2.1
  intro fu
  induction fu with
  | zero => intro k S h1 h2; exact absurd h2 (by omega)
  | succ fu ih =>
    intro k S h1 h2 hX hG hp hh
    obtain ⟨h5, h6, hr⟩ := id hG
    rw [fX6_enter_b67, h5, zi_le (by omega) (by omega)]
    by_cases c : n ≤ k
    · have : k = n := by omega
      subst this
      exact ⟨S, by rw [if_pos c], zK_refl _, hh⟩
    · have z8 : zin (Int32.ofNat k) 8 := zin_o (by omega) (by decide)
      have hx : ∀ (S2 : zSt), S2 = zA (zA S 702 k (zHold E n g f d b k)) 703 k (zPush E (g k) d s (zLee f k)) → ∃ S1 : zSt, fX6_enter_b67 zN fu d s mean (Int32.ofNat (k + 1)) (zA S2 704 k (zMarg E n g f d s b k)) = some S1 ∧ zKeep [] [702, 703, 704] S S1 ∧ (∀ j, j < n → S1.2.1 702 j = zHold E n g f d b j ∧ S1.2.1 703 j = zPush E (g j) d s (zLee f j) ∧ S1.2.1 704 j = zMarg E n g f d s b j) := fun S2 hS2 => by
        subst hS2
        have K : zKeep [] [702, 703, 704] S (zA (zA (zA S 702 k (zHold E n g f d b k)) 703 k (zPush E (g k) d s (zLee f k))) 704 k (zMarg E n g f d s b k)) :=
          zK_t (zK_t (zK_mono (zK_A _ _ _ _) (by simp) (by simp)) (zK_mono (zK_A _ _ _ _) (by simp) (by simp))) (zK_mono (zK_A _ _ _ _) (by simp) (by simp))
        obtain ⟨S1, e1, k1, r1⟩ := ih (k + 1) _ (by omega) (by omega) (zXV_K hX K (by simp) (by decide)) (zGX_K hG K (by simp) (by decide)) (fun j j0 j1 => by
          rw [zA_oth _ _ _ _ (by decide), zA_oth _ _ _ _ (by decide), zA_get, if_neg (by omega)]
          exact hp j (by omega) j1) (fun j hj => by
          rw [zA_oth _ _ _ _ (by decide), zA_oth _ _ _ _ (by decide), zA_get, zA_oth _ _ _ _ (by decide), zA_get, zA_get, zA_oth _ _ _ _ (by decide), zA_oth _ _ _ _ (by decide)]
          by_cases e : j = k
          · rw [if_pos e, if_pos e, if_pos e, e]; exact ⟨rfl, rfl, rfl⟩
          · rw [if_neg e, if_neg e, if_neg e]; exact hh j (by omega))
        exact ⟨S1, e1, zK_t K k1, r1⟩
      obtain ⟨S1, e1, k1, r1⟩ := hx _ rfl
      refine ⟨S1, ?_, k1, r1⟩
      have t1 := (x_tr hE hX (hg k (by omega))).2.1
      rw [if_neg c]
      simp only [if_pos z8, zL_def]
      rw [zo_t (by omega), hr k (by omega), t1, zB_some, hp k (Nat.le_refl k) (by omega), x_form h6 d b k hm, zB_some, x_lee (S := zA S 702 k (zHold E n g f d b k)) h6 (by omega) (fun h => by have := hf h; omega), zB_some, zmn_sunk, zo_s]
      unfold zMarg at e1
      by_cases q : E.2.1 (g k) ≤ d
      · rw [if_pos q]
        rw [if_pos q] at e1
        exact e1
      · rw [if_neg q, zA_oth _ _ _ _ (by decide), zA_get, zA_get, if_pos rfl, if_pos rfl]
        rw [if_neg q] at e1
        exact e1
theorem x_enter {E : zE} {np m : Nat} {nc : Nat → Nat} (hE : zOkE E np m nc) {n : Nat} {g : Nat → Nat} {f : Int32} (hn : n ≤ 8) (hg : ∀ k, k < n → g k < m) (hf : f = 2 → n ≤ 5) (hf3 : f = 3 → 1 ≤ n) {S : zSt} (hX : zXV E np m nc S) (hG : zGX n g f S) {p i : Nat} (hp : p < np) (hi : i < nc p) (e u : Int32) :
    ∃ S1 : zSt, fX2_enter zN (Int32.ofNat p) (Int32.ofNat i) e u S = some S1 ∧ zKeep [] [702, 703, 704] S S1 ∧ (∀ j, j < n → S1.2.1 702 j = zHold E n g f (zDep E p i e) (zBed E p i) j ∧ S1.2.1 703 j = zPush E (g j) (zDep E p i e) (zPac E p i e + u) (zLee f j) ∧ S1.2.1 704 j = zMar E n g f p i e u j) := by
  obtain ⟨S1, e1, k1, r1⟩ := x_enter1 hE hn hg (zDep E p i e) (zPac E p i e + u) (zBed E p i) zN 0 S (by omega) (by decide) hX hG.1 hG.2.2 (fun j hj => absurd hj (by omega))
  obtain ⟨S2, e2, k2, r2⟩ := x_enter2 hE hn hg hf (zDep E p i e) (zPac E p i e + u) (zBed E p i) (if Int32.ofNat n = 0 then 0 else zSum E g (zDep E p i e) (zBed E p i) n / Int32.ofNat n) (fun h => by
    rw [if_neg]
    intro z
    have z : Int32.ofNat n = Int32.ofNat 0 := z
    rw [zo_eq (by omega) (by omega)] at z
    have := hf3 h
    omega) zN 0 S1 (by omega) (by decide) (zXV_K hX k1 (by simp) (by decide)) (zGX_K hG k1 (by simp) (by decide)) (fun j _ hj => r1 j hj) (fun j hj => absurd hj (by omega))
  refine ⟨S2, ?_, zK_mono (zK_trans k1 k2) (by simp) (by simp), r2⟩
  unfold fX2_enter fX6_enter
  rw [x_pace hE hX hp hi, zB_some, x_depth hE hX hp hi, zB_some, x_bed hE hX hp hi, zB_some]
  refine (congrArg (fun o => zU o _) (e1.trans e2)).trans ?_
  rfl
-- the reference's
theorem r_sunk {E : zE} {np m : Nat} {nc : Nat → Nat} {S : zSt} (hE : zOkE E np m nc) (h : zRV E np m nc S) {q : Nat} (hq : q < m) (d : Int32) : fX12_sunk (Int32.ofNat q) d S = some (zSunk (E.2.1 q) d, S) := by
  have m8 := hE.2.1
  have z8 : zin (Int32.ofNat q) 8 := zin_o (by omega) (by decide)
  unfold fX12_sunk zSunk
  simp only [if_pos z8]
  rw [zo_t (by omega), h.2.2.2.2.1]
  split <;> rfl
theorem r_plain {E : zE} {np m : Nat} {nc : Nat → Nat} {S : zSt} (hE : zOkE E np m nc) (h : zRV E np m nc S) {q : Nat} (hq : q < m) (d b : Int32) : fX12_plainHold (Int32.ofNat q) d b S = some (zPlain E q d b, S) := by
  have m8 := hE.2.1
  have z8 : zin (Int32.ofNat q) 8 := zin_o (by omega) (by decide)
  have hn := zH_ne (hE.2.2.2 q hq).2.1.1
  unfold fX12_plainHold
  simp only [if_pos z8]
  rw [r_sunk hE h hq, zB_some, zo_t (by omega), h.2.2.2.2.1, if_pos hn, h.2.2.2.1, h.2.2.2.2.2.1, h.2.2.2.2.2.2.1]
  rfl
theorem r_push {E : zE} {np m : Nat} {nc : Nat → Nat} {S : zSt} (hE : zOkE E np m nc) (h : zRV E np m nc S) {q : Nat} (hq : q < m) (d s l : Int32) : fX12_pushOf (Int32.ofNat q) d s l S = some (zPush E q d s l, S) := by
  unfold fX12_pushOf
  rw [r_sunk hE h hq, zB_some]
  rfl
theorem r_lee {f : Int32} (hf : ¬ f = 4) {k : Nat} (hk : k < 8) : fX12_lee f (Int32.ofNat k) = some (zLee f k) := by
  unfold fX12_lee zLee
  rw [if_neg hf]
  by_cases c1 : f = 1
  · rw [if_pos c1, if_pos c1]
  rw [if_neg c1, if_neg c1]
  by_cases c2 : f = 2
  · have e0 : (Int32.ofNat k = 0) = (k = 0) := zo_eq (b := 0) (by omega) (by omega)
    have e3 : (3 ≤ Int32.ofNat k) = (3 ≤ k) := zo_le (a := 3) (by omega) (by omega)
    rw [if_pos c2, if_pos c2, zi_of e0, zi_of e3]
    split
    · rfl
    · split <;> rfl
  · rw [if_neg c2, if_neg c2]
theorem r_hold_loop {E : zE} {np m : Nat} {nc : Nat → Nat} {S : zSt} (hE : zOkE E np m nc) (h : zRV E np m nc S) {n : Nat} {g : Nat → Nat} (hG : zGrp n g S) (hn : 1 ≤ n) (hn5 : n ≤ 5) (hg : ∀ k, k < n → g k < m) (d b hold : Int32) : ∀ (fu k : Nat), k ≤ n → 5 < k + fu →
    fX12_holdOf_b42 zN fu d b hold (zSum E g d b k) (Int32.ofNat k) S = some ((hold + zSum E g d b n / Int32.ofNat n) / 2, S) := by
  intro fu
  induction fu with
  | zero => intro k h1 h2; exact absurd h2 (by omega)
  | succ fu ih =>
    intro k h1 h2
    rw [fX12_holdOf_b42, hG.1, zi_le (by omega) (by omega)]
    by_cases c : n ≤ k
    · have : k = n := by omega
      subst this
      have e0 : (Int32.ofNat k = 0) = (k = 0) := zo_eq (b := 0) (by omega) (by omega)
      rw [if_pos c, if_pos (by rw [e0]; omega)]
    · rw [if_neg c, if_pos (zin_o (by omega) (by decide)), zo_t (by omega), hG.2 k (by omega), r_plain hE h (hg k (by omega)), zB_some, zo_s]
      exact ih (k + 1) (by omega) (by omega)
theorem r_hold {E : zE} {np m : Nat} {nc : Nat → Nat} {S : zSt} (hE : zOkE E np m nc) (h : zRV E np m nc S) {n : Nat} {g : Nat → Nat} (hG : zGrp n g S) (hn5 : n ≤ 5) (hg : ∀ k, k < n → g k < m) (f d b : Int32) {k : Nat} (hk : k < n) : fX12_holdOf zN (Int32.ofNat k) f d b S = some (zHold E n g f d b k, S) := by
  unfold fX12_holdOf zHold
  rw [if_pos (zin_o (by omega) (by decide)), zo_t (by omega), hG.2 k hk, r_plain hE h (hg k hk), zB_some]
  by_cases c1 : f = 0
  · rw [if_pos c1, if_pos c1]
  rw [if_neg c1, if_neg c1]
  by_cases c2 : f = 3
  · rw [if_pos c2, if_pos c2]
    exact r_hold_loop hE h hG (by omega) hn5 hg d b _ zN 0 (by omega) (by decide)
  · rw [if_neg c2, if_neg c2]
theorem r_margin {E : zE} {np m : Nat} {nc : Nat → Nat} {S : zSt} (hE : zOkE E np m nc) (h : zRV E np m nc S) {n : Nat} {g : Nat → Nat} (hG : zGrp n g S) (hn5 : n ≤ 5) (hg : ∀ k, k < n → g k < m) {f : Int32} (hf : ¬ f = 4) {p i : Nat} (hp : p < np) (hi : i < 12) (e : Int32) {k : Nat} (hk : k < n) : fX12_marginIn zN (Int32.ofNat p) (Int32.ofNat i) e (Int32.ofNat k) f S = some (zMar E n g f p i e (S.2.1 35 i) k, S) := by
  have n6 := hE.1
  have m8 := hE.2.1
  have gk := hg k hk
  have n12 : i < 12 := hi
  have k34 : S.2.1 34 (Int32.toNatClampNeg (Int32.ofNat k)) = Int32.ofNat (g k) := by rw [zo_t (by omega), hG.2 k hk]
  have z5 : zin (Int32.ofNat k) 5 := zin_o (by omega) (by decide)
  have z8 : zin (S.2.1 34 (Int32.toNatClampNeg (Int32.ofNat k))) 8 := by
    rw [k34]
    exact zin_o (by omega) (by decide)
  have z12 : zin (Int32.ofNat i) 12 := zin_o hi (by decide)
  have z252 : zin (36 * Int32.ofNat p + 3 * Int32.ofNat i + 2) 252 := by
    rw [zix2]
    exact zin_o (by omega) (by decide)
  unfold fX12_marginIn zMar zMarg
  rw [r_depth hE h hp hi, zB_some]
  simp only [if_pos z5, if_pos z8, if_pos z252, if_pos z12]
  rw [k34, zo_t (by omega), h.2.2.2.2.1]
  by_cases c : E.2.1 (g k) ≤ zDep E p i e
  · rw [if_neg (Int32.not_lt.mpr c), if_pos c]
  · rw [if_pos (Int32.not_le.mp c), if_neg c, zix2, zo_t (by omega), h.2.2.2.2.2.2.2.1]
    refine (congrArg (fun o => zB o _) (r_hold hE h hG hn5 hg f (zDep E p i e) (zBed E p i) hk)).trans ?_
    rw [zB_some, r_pace hE h hp hi, zB_some, r_lee hf (by omega), zU_some, zo_t (by omega), hG.2 k hk, zo_t (by omega), r_push hE h (hg k hk), zB_some]
